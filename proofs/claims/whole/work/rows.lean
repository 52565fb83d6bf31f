section
-- ===== PART A: goes FIRST, ahead of the names: the tables' words, and 'selects' of the private methods out of them =====
/-- a private method of a class that the tables say can be made, by its rows of tables_1 -/
def lw_okq (q : MethodName × Nat) : Prop := (q.1.cls ≠ "java/lang/invoke/MethodHandle" ∧ q.1.cls ≠ "java/lang/invoke/VarHandle") ∧ Cond.instantiable q.1.cls q.2 ∈ tables_1 ∧ Cond.privateMethod q.1 ∈ tables_1 ∧ Cond.instanceMethod q.1 ∈ tables_1
theorem lw_p0 : lw_okq (⟨"TrayBox$Text", "readTray", "()Z"⟩, 6) := ⟨⟨by decide +kernel, by decide +kernel⟩, List.mem_of_getElem? (i := 154) (by decide +kernel), List.mem_of_getElem? (i := 346) (by decide +kernel), List.mem_of_getElem? (i := 347) (by decide +kernel)⟩
theorem lw_p1 : lw_okq (⟨"TrayBox$Text", "next", "()C"⟩, 6) := ⟨⟨by decide +kernel, by decide +kernel⟩, List.mem_of_getElem? (i := 154) (by decide +kernel), List.mem_of_getElem? (i := 350) (by decide +kernel), List.mem_of_getElem? (i := 351) (by decide +kernel)⟩
theorem lw_p2 : lw_okq (⟨"TrayBox$Text", "fail", "(II)Z"⟩, 6) := ⟨⟨by decide +kernel, by decide +kernel⟩, List.mem_of_getElem? (i := 154) (by decide +kernel), List.mem_of_getElem? (i := 357) (by decide +kernel), List.mem_of_getElem? (i := 358) (by decide +kernel)⟩
theorem lw_p3 : lw_okq (⟨"TrayBox$Text", "readNumber", "(I)Z"⟩, 6) := ⟨⟨by decide +kernel, by decide +kernel⟩, List.mem_of_getElem? (i := 154) (by decide +kernel), List.mem_of_getElem? (i := 361) (by decide +kernel), List.mem_of_getElem? (i := 362) (by decide +kernel)⟩
theorem lw_p4 : lw_okq (⟨"TrayBox$Text", "readSign", "(C)Z"⟩, 6) := ⟨⟨by decide +kernel, by decide +kernel⟩, List.mem_of_getElem? (i := 154) (by decide +kernel), List.mem_of_getElem? (i := 366) (by decide +kernel), List.mem_of_getElem? (i := 367) (by decide +kernel)⟩
theorem lw_p5 : lw_okq (⟨"TrayBox$Text", "readLid", "(LTrayBox$Tray;)Z"⟩, 6) := ⟨⟨by decide +kernel, by decide +kernel⟩, List.mem_of_getElem? (i := 154) (by decide +kernel), List.mem_of_getElem? (i := 375) (by decide +kernel), List.mem_of_getElem? (i := 376) (by decide +kernel)⟩
theorem lw_p6 : lw_okq (⟨"TrayBox$Text", "readTurn", "(LTrayBox$Tray;)Z"⟩, 6) := ⟨⟨by decide +kernel, by decide +kernel⟩, List.mem_of_getElem? (i := 154) (by decide +kernel), List.mem_of_getElem? (i := 379) (by decide +kernel), List.mem_of_getElem? (i := 380) (by decide +kernel)⟩
theorem lw_p7 : lw_okq (⟨"TrayBox$Box", "lyingOn", "(I)I"⟩, 6) := ⟨⟨by decide +kernel, by decide +kernel⟩, List.mem_of_getElem? (i := 21) (by decide +kernel), List.mem_of_getElem? (i := 470) (by decide +kernel), List.mem_of_getElem? (i := 471) (by decide +kernel)⟩
theorem lw_p8 : lw_okq (⟨"TrayBox", "placedProperty", "(II)I"⟩, 5) := ⟨⟨by decide +kernel, by decide +kernel⟩, List.mem_of_getElem? (i := 13) (by decide +kernel), List.mem_of_getElem? (i := 491) (by decide +kernel), List.mem_of_getElem? (i := 492) (by decide +kernel)⟩
theorem lw_p9 : lw_okq (⟨"TrayBox$Box", "lateOnes", "(II)I"⟩, 6) := ⟨⟨by decide +kernel, by decide +kernel⟩, List.mem_of_getElem? (i := 21) (by decide +kernel), List.mem_of_getElem? (i := 505) (by decide +kernel), List.mem_of_getElem? (i := 506) (by decide +kernel)⟩
theorem lw_p10 : lw_okq (⟨"TrayBox$Finder", "keep", "(IIZ)V"⟩, 9) := ⟨⟨by decide +kernel, by decide +kernel⟩, List.mem_of_getElem? (i := 185) (by decide +kernel), List.mem_of_getElem? (i := 531) (by decide +kernel), List.mem_of_getElem? (i := 532) (by decide +kernel)⟩
theorem lw_p11 : lw_okq (⟨"TrayBox$Packer", "letDownFrom", "([II)V"⟩, 6) := ⟨⟨by decide +kernel, by decide +kernel⟩, List.mem_of_getElem? (i := 233) (by decide +kernel), List.mem_of_getElem? (i := 553) (by decide +kernel), List.mem_of_getElem? (i := 554) (by decide +kernel)⟩
theorem lw_p12 : lw_okq (⟨"TrayBox$Packer", "measure", "([I)V"⟩, 6) := ⟨⟨by decide +kernel, by decide +kernel⟩, List.mem_of_getElem? (i := 233) (by decide +kernel), List.mem_of_getElem? (i := 562) (by decide +kernel), List.mem_of_getElem? (i := 563) (by decide +kernel)⟩
theorem lw_p13 : lw_okq (⟨"TrayBox", "takeOverPacked", "()I"⟩, 5) := ⟨⟨by decide +kernel, by decide +kernel⟩, List.mem_of_getElem? (i := 13) (by decide +kernel), List.mem_of_getElem? (i := 583) (by decide +kernel), List.mem_of_getElem? (i := 584) (by decide +kernel)⟩
theorem lw_p14 : lw_okq (⟨"TrayBox$Packer", "isTriedBetter", "()Z"⟩, 6) := ⟨⟨by decide +kernel, by decide +kernel⟩, List.mem_of_getElem? (i := 233) (by decide +kernel), List.mem_of_getElem? (i := 595) (by decide +kernel), List.mem_of_getElem? (i := 596) (by decide +kernel)⟩
theorem lw_p15 : lw_okq (⟨"TrayBox$Packer", "stepToNextOrder", "()I"⟩, 6) := ⟨⟨by decide +kernel, by decide +kernel⟩, List.mem_of_getElem? (i := 233) (by decide +kernel), List.mem_of_getElem? (i := 602) (by decide +kernel), List.mem_of_getElem? (i := 603) (by decide +kernel)⟩
def lw_privs_1 : List (MethodName × Nat) := [(⟨"TrayBox$Text", "readTray", "()Z"⟩, 6), (⟨"TrayBox$Text", "next", "()C"⟩, 6), (⟨"TrayBox$Text", "fail", "(II)Z"⟩, 6), (⟨"TrayBox$Text", "readNumber", "(I)Z"⟩, 6), (⟨"TrayBox$Text", "readSign", "(C)Z"⟩, 6), (⟨"TrayBox$Text", "readLid", "(LTrayBox$Tray;)Z"⟩, 6), (⟨"TrayBox$Text", "readTurn", "(LTrayBox$Tray;)Z"⟩, 6), (⟨"TrayBox$Box", "lyingOn", "(I)I"⟩, 6), (⟨"TrayBox", "placedProperty", "(II)I"⟩, 5), (⟨"TrayBox$Box", "lateOnes", "(II)I"⟩, 6), (⟨"TrayBox$Finder", "keep", "(IIZ)V"⟩, 9), (⟨"TrayBox$Packer", "letDownFrom", "([II)V"⟩, 6), (⟨"TrayBox$Packer", "measure", "([I)V"⟩, 6), (⟨"TrayBox", "takeOverPacked", "()I"⟩, 5), (⟨"TrayBox$Packer", "isTriedBetter", "()Z"⟩, 6), (⟨"TrayBox$Packer", "stepToNextOrder", "()I"⟩, 6)]
theorem lw_r1 : ∀ q ∈ lw_privs_1, lw_okq q := List.forall_mem_cons.mpr ⟨lw_p0, List.forall_mem_cons.mpr ⟨lw_p1, List.forall_mem_cons.mpr ⟨lw_p2, List.forall_mem_cons.mpr ⟨lw_p3, List.forall_mem_cons.mpr ⟨lw_p4, List.forall_mem_cons.mpr ⟨lw_p5, List.forall_mem_cons.mpr ⟨lw_p6, List.forall_mem_cons.mpr ⟨lw_p7, List.forall_mem_cons.mpr ⟨lw_p8, List.forall_mem_cons.mpr ⟨lw_p9, List.forall_mem_cons.mpr ⟨lw_p10, List.forall_mem_cons.mpr ⟨lw_p11, List.forall_mem_cons.mpr ⟨lw_p12, List.forall_mem_cons.mpr ⟨lw_p13, List.forall_mem_cons.mpr ⟨lw_p14, List.forall_mem_cons.mpr ⟨lw_p15, fun _ h => absurd h List.not_mem_nil⟩⟩⟩⟩⟩⟩⟩⟩⟩⟩⟩⟩⟩⟩⟩⟩
theorem lw_p16 : lw_okq (⟨"TrayBox$Packer", "swap", "(II)V"⟩, 6) := ⟨⟨by decide +kernel, by decide +kernel⟩, List.mem_of_getElem? (i := 233) (by decide +kernel), List.mem_of_getElem? (i := 606) (by decide +kernel), List.mem_of_getElem? (i := 607) (by decide +kernel)⟩
theorem lw_p17 : lw_okq (⟨"TrayBoxModel", "copies", "(II)V"⟩, 21) := ⟨⟨by decide +kernel, by decide +kernel⟩, List.mem_of_getElem? (i := 662) (by decide +kernel), List.mem_of_getElem? (i := 736) (by decide +kernel), List.mem_of_getElem? (i := 737) (by decide +kernel)⟩
theorem lw_p18 : lw_okq (⟨"TrayBoxModel", "isTray", "(I)Z"⟩, 21) := ⟨⟨by decide +kernel, by decide +kernel⟩, List.mem_of_getElem? (i := 662) (by decide +kernel), List.mem_of_getElem? (i := 744) (by decide +kernel), List.mem_of_getElem? (i := 745) (by decide +kernel)⟩
theorem lw_p19 : lw_okq (⟨"TrayBoxModel", "trays", "()I"⟩, 21) := ⟨⟨by decide +kernel, by decide +kernel⟩, List.mem_of_getElem? (i := 662) (by decide +kernel), List.mem_of_getElem? (i := 748) (by decide +kernel), List.mem_of_getElem? (i := 749) (by decide +kernel)⟩
theorem lw_p20 : lw_okq (⟨"TrayBoxModel", "isInside", "(IIIZ)Z"⟩, 21) := ⟨⟨by decide +kernel, by decide +kernel⟩, List.mem_of_getElem? (i := 662) (by decide +kernel), List.mem_of_getElem? (i := 755) (by decide +kernel), List.mem_of_getElem? (i := 756) (by decide +kernel)⟩
theorem lw_p21 : lw_okq (⟨"TrayBoxModel", "along", "(IZZ)I"⟩, 21) := ⟨⟨by decide +kernel, by decide +kernel⟩, List.mem_of_getElem? (i := 662) (by decide +kernel), List.mem_of_getElem? (i := 759) (by decide +kernel), List.mem_of_getElem? (i := 760) (by decide +kernel)⟩
theorem lw_p22 : lw_okq (⟨"TrayBoxModel", "of", "(II)I"⟩, 21) := ⟨⟨by decide +kernel, by decide +kernel⟩, List.mem_of_getElem? (i := 662) (by decide +kernel), List.mem_of_getElem? (i := 763) (by decide +kernel), List.mem_of_getElem? (i := 764) (by decide +kernel)⟩
theorem lw_p23 : lw_okq (⟨"TrayBoxModel", "isIn", "(I)Z"⟩, 21) := ⟨⟨by decide +kernel, by decide +kernel⟩, List.mem_of_getElem? (i := 662) (by decide +kernel), List.mem_of_getElem? (i := 767) (by decide +kernel), List.mem_of_getElem? (i := 768) (by decide +kernel)⟩
theorem lw_p24 : lw_okq (⟨"TrayBoxModel", "laysTops", "()V"⟩, 21) := ⟨⟨by decide +kernel, by decide +kernel⟩, List.mem_of_getElem? (i := 662) (by decide +kernel), List.mem_of_getElem? (i := 771) (by decide +kernel), List.mem_of_getElem? (i := 772) (by decide +kernel)⟩
theorem lw_p25 : lw_okq (⟨"TrayBoxModel", "covers", "(III)Z"⟩, 21) := ⟨⟨by decide +kernel, by decide +kernel⟩, List.mem_of_getElem? (i := 662) (by decide +kernel), List.mem_of_getElem? (i := 775) (by decide +kernel), List.mem_of_getElem? (i := 776) (by decide +kernel)⟩
theorem lw_p26 : lw_okq (⟨"TrayBoxModel", "spans", "(IZ)I"⟩, 21) := ⟨⟨by decide +kernel, by decide +kernel⟩, List.mem_of_getElem? (i := 662) (by decide +kernel), List.mem_of_getElem? (i := 779) (by decide +kernel), List.mem_of_getElem? (i := 780) (by decide +kernel)⟩
theorem lw_p27 : lw_okq (⟨"TrayBoxModel", "top", "(I)I"⟩, 21) := ⟨⟨by decide +kernel, by decide +kernel⟩, List.mem_of_getElem? (i := 662) (by decide +kernel), List.mem_of_getElem? (i := 783) (by decide +kernel), List.mem_of_getElem? (i := 784) (by decide +kernel)⟩
theorem lw_p28 : lw_okq (⟨"TrayBoxModel", "high", "(I)I"⟩, 21) := ⟨⟨by decide +kernel, by decide +kernel⟩, List.mem_of_getElem? (i := 662) (by decide +kernel), List.mem_of_getElem? (i := 787) (by decide +kernel), List.mem_of_getElem? (i := 788) (by decide +kernel)⟩
theorem lw_p29 : lw_okq (⟨"TrayBoxModel", "can", "(IIIZ)Z"⟩, 21) := ⟨⟨by decide +kernel, by decide +kernel⟩, List.mem_of_getElem? (i := 662) (by decide +kernel), List.mem_of_getElem? (i := 791) (by decide +kernel), List.mem_of_getElem? (i := 792) (by decide +kernel)⟩
theorem lw_p30 : lw_okq (⟨"TrayBoxModel", "looksAt", "(IIIZ)V"⟩, 21) := ⟨⟨by decide +kernel, by decide +kernel⟩, List.mem_of_getElem? (i := 662) (by decide +kernel), List.mem_of_getElem? (i := 795) (by decide +kernel), List.mem_of_getElem? (i := 796) (by decide +kernel)⟩
theorem lw_p31 : lw_okq (⟨"TrayBoxModel", "records", "()V"⟩, 21) := ⟨⟨by decide +kernel, by decide +kernel⟩, List.mem_of_getElem? (i := 662) (by decide +kernel), List.mem_of_getElem? (i := 799) (by decide +kernel), List.mem_of_getElem? (i := 800) (by decide +kernel)⟩
def lw_privs_2 : List (MethodName × Nat) := [(⟨"TrayBox$Packer", "swap", "(II)V"⟩, 6), (⟨"TrayBoxModel", "copies", "(II)V"⟩, 21), (⟨"TrayBoxModel", "isTray", "(I)Z"⟩, 21), (⟨"TrayBoxModel", "trays", "()I"⟩, 21), (⟨"TrayBoxModel", "isInside", "(IIIZ)Z"⟩, 21), (⟨"TrayBoxModel", "along", "(IZZ)I"⟩, 21), (⟨"TrayBoxModel", "of", "(II)I"⟩, 21), (⟨"TrayBoxModel", "isIn", "(I)Z"⟩, 21), (⟨"TrayBoxModel", "laysTops", "()V"⟩, 21), (⟨"TrayBoxModel", "covers", "(III)Z"⟩, 21), (⟨"TrayBoxModel", "spans", "(IZ)I"⟩, 21), (⟨"TrayBoxModel", "top", "(I)I"⟩, 21), (⟨"TrayBoxModel", "high", "(I)I"⟩, 21), (⟨"TrayBoxModel", "can", "(IIIZ)Z"⟩, 21), (⟨"TrayBoxModel", "looksAt", "(IIIZ)V"⟩, 21), (⟨"TrayBoxModel", "records", "()V"⟩, 21)]
theorem lw_r2 : ∀ q ∈ lw_privs_2, lw_okq q := List.forall_mem_cons.mpr ⟨lw_p16, List.forall_mem_cons.mpr ⟨lw_p17, List.forall_mem_cons.mpr ⟨lw_p18, List.forall_mem_cons.mpr ⟨lw_p19, List.forall_mem_cons.mpr ⟨lw_p20, List.forall_mem_cons.mpr ⟨lw_p21, List.forall_mem_cons.mpr ⟨lw_p22, List.forall_mem_cons.mpr ⟨lw_p23, List.forall_mem_cons.mpr ⟨lw_p24, List.forall_mem_cons.mpr ⟨lw_p25, List.forall_mem_cons.mpr ⟨lw_p26, List.forall_mem_cons.mpr ⟨lw_p27, List.forall_mem_cons.mpr ⟨lw_p28, List.forall_mem_cons.mpr ⟨lw_p29, List.forall_mem_cons.mpr ⟨lw_p30, List.forall_mem_cons.mpr ⟨lw_p31, fun _ h => absurd h List.not_mem_nil⟩⟩⟩⟩⟩⟩⟩⟩⟩⟩⟩⟩⟩⟩⟩⟩
theorem lw_p32 : lw_okq (⟨"TrayBoxModel", "comes", "(IIII)V"⟩, 21) := ⟨⟨by decide +kernel, by decide +kernel⟩, List.mem_of_getElem? (i := 662) (by decide +kernel), List.mem_of_getElem? (i := 803) (by decide +kernel), List.mem_of_getElem? (i := 804) (by decide +kernel)⟩
theorem lw_p33 : lw_okq (⟨"TrayBoxModel", "sets", "(III)V"⟩, 21) := ⟨⟨by decide +kernel, by decide +kernel⟩, List.mem_of_getElem? (i := 662) (by decide +kernel), List.mem_of_getElem? (i := 807) (by decide +kernel), List.mem_of_getElem? (i := 808) (by decide +kernel)⟩
theorem lw_p34 : lw_okq (⟨"TrayBoxModel", "readsTray", "()Z"⟩, 21) := ⟨⟨by decide +kernel, by decide +kernel⟩, List.mem_of_getElem? (i := 662) (by decide +kernel), List.mem_of_getElem? (i := 823) (by decide +kernel), List.mem_of_getElem? (i := 824) (by decide +kernel)⟩
theorem lw_p35 : lw_okq (⟨"TrayBoxModel", "isDigit", "()Z"⟩, 21) := ⟨⟨by decide +kernel, by decide +kernel⟩, List.mem_of_getElem? (i := 662) (by decide +kernel), List.mem_of_getElem? (i := 827) (by decide +kernel), List.mem_of_getElem? (i := 828) (by decide +kernel)⟩
theorem lw_p36 : lw_okq (⟨"TrayBoxModel", "here", "()I"⟩, 21) := ⟨⟨by decide +kernel, by decide +kernel⟩, List.mem_of_getElem? (i := 662) (by decide +kernel), List.mem_of_getElem? (i := 831) (by decide +kernel), List.mem_of_getElem? (i := 832) (by decide +kernel)⟩
theorem lw_p37 : lw_okq (⟨"TrayBoxModel", "fails", "(II)Z"⟩, 21) := ⟨⟨by decide +kernel, by decide +kernel⟩, List.mem_of_getElem? (i := 662) (by decide +kernel), List.mem_of_getElem? (i := 835) (by decide +kernel), List.mem_of_getElem? (i := 836) (by decide +kernel)⟩
theorem lw_p38 : lw_okq (⟨"TrayBoxModel", "leaves", "(I)V"⟩, 21) := ⟨⟨by decide +kernel, by decide +kernel⟩, List.mem_of_getElem? (i := 662) (by decide +kernel), List.mem_of_getElem? (i := 839) (by decide +kernel), List.mem_of_getElem? (i := 840) (by decide +kernel)⟩
theorem lw_p39 : lw_okq (⟨"TrayBoxModel", "readsInto", "(III)Z"⟩, 21) := ⟨⟨by decide +kernel, by decide +kernel⟩, List.mem_of_getElem? (i := 662) (by decide +kernel), List.mem_of_getElem? (i := 843) (by decide +kernel), List.mem_of_getElem? (i := 844) (by decide +kernel)⟩
theorem lw_p40 : lw_okq (⟨"TrayBoxModel", "readsNumber", "(III)Z"⟩, 21) := ⟨⟨by decide +kernel, by decide +kernel⟩, List.mem_of_getElem? (i := 662) (by decide +kernel), List.mem_of_getElem? (i := 847) (by decide +kernel), List.mem_of_getElem? (i := 848) (by decide +kernel)⟩
theorem lw_p41 : lw_okq (⟨"TrayBoxModel", "takes", "(I)Z"⟩, 21) := ⟨⟨by decide +kernel, by decide +kernel⟩, List.mem_of_getElem? (i := 662) (by decide +kernel), List.mem_of_getElem? (i := 851) (by decide +kernel), List.mem_of_getElem? (i := 852) (by decide +kernel)⟩
theorem lw_p42 : lw_okq (⟨"TrayBoxModel", "recordsKept", "(I)V"⟩, 21) := ⟨⟨by decide +kernel, by decide +kernel⟩, List.mem_of_getElem? (i := 662) (by decide +kernel), List.mem_of_getElem? (i := 855) (by decide +kernel), List.mem_of_getElem? (i := 856) (by decide +kernel)⟩
theorem lw_p43 : lw_okq (⟨"TrayBoxModel", "inBox", "()I"⟩, 21) := ⟨⟨by decide +kernel, by decide +kernel⟩, List.mem_of_getElem? (i := 662) (by decide +kernel), List.mem_of_getElem? (i := 867) (by decide +kernel), List.mem_of_getElem? (i := 868) (by decide +kernel)⟩
theorem lw_p44 : lw_okq (⟨"TrayBoxModel", "empties", "()V"⟩, 21) := ⟨⟨by decide +kernel, by decide +kernel⟩, List.mem_of_getElem? (i := 662) (by decide +kernel), List.mem_of_getElem? (i := 871) (by decide +kernel), List.mem_of_getElem? (i := 872) (by decide +kernel)⟩
theorem lw_p45 : lw_okq (⟨"TrayBoxModel", "above", "(I)I"⟩, 21) := ⟨⟨by decide +kernel, by decide +kernel⟩, List.mem_of_getElem? (i := 662) (by decide +kernel), List.mem_of_getElem? (i := 895) (by decide +kernel), List.mem_of_getElem? (i := 896) (by decide +kernel)⟩
theorem lw_p46 : lw_okq (⟨"TrayBoxModel", "liesOn", "(II)Z"⟩, 21) := ⟨⟨by decide +kernel, by decide +kernel⟩, List.mem_of_getElem? (i := 662) (by decide +kernel), List.mem_of_getElem? (i := 899) (by decide +kernel), List.mem_of_getElem? (i := 900) (by decide +kernel)⟩
theorem lw_p47 : lw_okq (⟨"TrayBoxModel", "meet", "(II)Z"⟩, 21) := ⟨⟨by decide +kernel, by decide +kernel⟩, List.mem_of_getElem? (i := 662) (by decide +kernel), List.mem_of_getElem? (i := 903) (by decide +kernel), List.mem_of_getElem? (i := 904) (by decide +kernel)⟩
def lw_privs_3 : List (MethodName × Nat) := [(⟨"TrayBoxModel", "comes", "(IIII)V"⟩, 21), (⟨"TrayBoxModel", "sets", "(III)V"⟩, 21), (⟨"TrayBoxModel", "readsTray", "()Z"⟩, 21), (⟨"TrayBoxModel", "isDigit", "()Z"⟩, 21), (⟨"TrayBoxModel", "here", "()I"⟩, 21), (⟨"TrayBoxModel", "fails", "(II)Z"⟩, 21), (⟨"TrayBoxModel", "leaves", "(I)V"⟩, 21), (⟨"TrayBoxModel", "readsInto", "(III)Z"⟩, 21), (⟨"TrayBoxModel", "readsNumber", "(III)Z"⟩, 21), (⟨"TrayBoxModel", "takes", "(I)Z"⟩, 21), (⟨"TrayBoxModel", "recordsKept", "(I)V"⟩, 21), (⟨"TrayBoxModel", "inBox", "()I"⟩, 21), (⟨"TrayBoxModel", "empties", "()V"⟩, 21), (⟨"TrayBoxModel", "above", "(I)I"⟩, 21), (⟨"TrayBoxModel", "liesOn", "(II)Z"⟩, 21), (⟨"TrayBoxModel", "meet", "(II)Z"⟩, 21)]
theorem lw_r3 : ∀ q ∈ lw_privs_3, lw_okq q := List.forall_mem_cons.mpr ⟨lw_p32, List.forall_mem_cons.mpr ⟨lw_p33, List.forall_mem_cons.mpr ⟨lw_p34, List.forall_mem_cons.mpr ⟨lw_p35, List.forall_mem_cons.mpr ⟨lw_p36, List.forall_mem_cons.mpr ⟨lw_p37, List.forall_mem_cons.mpr ⟨lw_p38, List.forall_mem_cons.mpr ⟨lw_p39, List.forall_mem_cons.mpr ⟨lw_p40, List.forall_mem_cons.mpr ⟨lw_p41, List.forall_mem_cons.mpr ⟨lw_p42, List.forall_mem_cons.mpr ⟨lw_p43, List.forall_mem_cons.mpr ⟨lw_p44, List.forall_mem_cons.mpr ⟨lw_p45, List.forall_mem_cons.mpr ⟨lw_p46, List.forall_mem_cons.mpr ⟨lw_p47, fun _ h => absurd h List.not_mem_nil⟩⟩⟩⟩⟩⟩⟩⟩⟩⟩⟩⟩⟩⟩⟩⟩
theorem lw_p48 : lw_okq (⟨"TrayBoxModel", "lift", "(I)I"⟩, 21) := ⟨⟨by decide +kernel, by decide +kernel⟩, List.mem_of_getElem? (i := 662) (by decide +kernel), List.mem_of_getElem? (i := 915) (by decide +kernel), List.mem_of_getElem? (i := 916) (by decide +kernel)⟩
theorem lw_p49 : lw_okq (⟨"TrayBoxModel", "fault", "(I)I"⟩, 21) := ⟨⟨by decide +kernel, by decide +kernel⟩, List.mem_of_getElem? (i := 662) (by decide +kernel), List.mem_of_getElem? (i := 919) (by decide +kernel), List.mem_of_getElem? (i := 920) (by decide +kernel)⟩
theorem lw_p50 : lw_okq (⟨"TrayBoxModel", "rests", "(I)I"⟩, 21) := ⟨⟨by decide +kernel, by decide +kernel⟩, List.mem_of_getElem? (i := 662) (by decide +kernel), List.mem_of_getElem? (i := 923) (by decide +kernel), List.mem_of_getElem? (i := 924) (by decide +kernel)⟩
theorem lw_p51 : lw_okq (⟨"TrayBoxModel", "finds", "(I)V"⟩, 21) := ⟨⟨by decide +kernel, by decide +kernel⟩, List.mem_of_getElem? (i := 662) (by decide +kernel), List.mem_of_getElem? (i := 935) (by decide +kernel), List.mem_of_getElem? (i := 936) (by decide +kernel)⟩
theorem lw_p52 : lw_okq (⟨"TrayBoxModel", "ordersUsually", "()V"⟩, 21) := ⟨⟨by decide +kernel, by decide +kernel⟩, List.mem_of_getElem? (i := 662) (by decide +kernel), List.mem_of_getElem? (i := 947) (by decide +kernel), List.mem_of_getElem? (i := 948) (by decide +kernel)⟩
theorem lw_p53 : lw_okq (⟨"TrayBoxModel", "isAhead", "(II)Z"⟩, 21) := ⟨⟨by decide +kernel, by decide +kernel⟩, List.mem_of_getElem? (i := 662) (by decide +kernel), List.mem_of_getElem? (i := 951) (by decide +kernel), List.mem_of_getElem? (i := 952) (by decide +kernel)⟩
theorem lw_p54 : lw_okq (⟨"TrayBoxModel", "packs", "()V"⟩, 21) := ⟨⟨by decide +kernel, by decide +kernel⟩, List.mem_of_getElem? (i := 662) (by decide +kernel), List.mem_of_getElem? (i := 955) (by decide +kernel), List.mem_of_getElem? (i := 956) (by decide +kernel)⟩
theorem lw_p55 : lw_okq (⟨"TrayBoxModel", "comesTo", "(I)I"⟩, 21) := ⟨⟨by decide +kernel, by decide +kernel⟩, List.mem_of_getElem? (i := 662) (by decide +kernel), List.mem_of_getElem? (i := 959) (by decide +kernel), List.mem_of_getElem? (i := 960) (by decide +kernel)⟩
theorem lw_p56 : lw_okq (⟨"TrayBoxModel", "faults", "()I"⟩, 21) := ⟨⟨by decide +kernel, by decide +kernel⟩, List.mem_of_getElem? (i := 662) (by decide +kernel), List.mem_of_getElem? (i := 963) (by decide +kernel), List.mem_of_getElem? (i := 964) (by decide +kernel)⟩
theorem lw_p57 : lw_okq (⟨"TrayBoxModel", "boxHeight", "()I"⟩, 21) := ⟨⟨by decide +kernel, by decide +kernel⟩, List.mem_of_getElem? (i := 662) (by decide +kernel), List.mem_of_getElem? (i := 967) (by decide +kernel), List.mem_of_getElem? (i := 968) (by decide +kernel)⟩
theorem lw_p58 : lw_okq (⟨"TrayBoxModel", "air", "()I"⟩, 21) := ⟨⟨by decide +kernel, by decide +kernel⟩, List.mem_of_getElem? (i := 662) (by decide +kernel), List.mem_of_getElem? (i := 971) (by decide +kernel), List.mem_of_getElem? (i := 972) (by decide +kernel)⟩
theorem lw_p59 : lw_okq (⟨"TrayBoxModel", "ordersBest", "()V"⟩, 21) := ⟨⟨by decide +kernel, by decide +kernel⟩, List.mem_of_getElem? (i := 662) (by decide +kernel), List.mem_of_getElem? (i := 979) (by decide +kernel), List.mem_of_getElem? (i := 980) (by decide +kernel)⟩
theorem lw_p60 : lw_okq (⟨"TrayBoxModel", "isBetter", "()Z"⟩, 21) := ⟨⟨by decide +kernel, by decide +kernel⟩, List.mem_of_getElem? (i := 662) (by decide +kernel), List.mem_of_getElem? (i := 983) (by decide +kernel), List.mem_of_getElem? (i := 984) (by decide +kernel)⟩
theorem lw_p61 : lw_okq (⟨"TrayBoxModel", "ordersNext", "()Z"⟩, 21) := ⟨⟨by decide +kernel, by decide +kernel⟩, List.mem_of_getElem? (i := 662) (by decide +kernel), List.mem_of_getElem? (i := 987) (by decide +kernel), List.mem_of_getElem? (i := 988) (by decide +kernel)⟩
theorem lw_p62 : lw_okq (⟨"TrayBoxModel", "swaps", "(II)V"⟩, 21) := ⟨⟨by decide +kernel, by decide +kernel⟩, List.mem_of_getElem? (i := 662) (by decide +kernel), List.mem_of_getElem? (i := 991) (by decide +kernel), List.mem_of_getElem? (i := 992) (by decide +kernel)⟩
theorem lw_p63 : lw_okq (⟨"TrayBoxModel", "plays", "(I)I"⟩, 21) := ⟨⟨by decide +kernel, by decide +kernel⟩, List.mem_of_getElem? (i := 662) (by decide +kernel), List.mem_of_getElem? (i := 1003) (by decide +kernel), List.mem_of_getElem? (i := 1004) (by decide +kernel)⟩
def lw_privs_4 : List (MethodName × Nat) := [(⟨"TrayBoxModel", "lift", "(I)I"⟩, 21), (⟨"TrayBoxModel", "fault", "(I)I"⟩, 21), (⟨"TrayBoxModel", "rests", "(I)I"⟩, 21), (⟨"TrayBoxModel", "finds", "(I)V"⟩, 21), (⟨"TrayBoxModel", "ordersUsually", "()V"⟩, 21), (⟨"TrayBoxModel", "isAhead", "(II)Z"⟩, 21), (⟨"TrayBoxModel", "packs", "()V"⟩, 21), (⟨"TrayBoxModel", "comesTo", "(I)I"⟩, 21), (⟨"TrayBoxModel", "faults", "()I"⟩, 21), (⟨"TrayBoxModel", "boxHeight", "()I"⟩, 21), (⟨"TrayBoxModel", "air", "()I"⟩, 21), (⟨"TrayBoxModel", "ordersBest", "()V"⟩, 21), (⟨"TrayBoxModel", "isBetter", "()Z"⟩, 21), (⟨"TrayBoxModel", "ordersNext", "()Z"⟩, 21), (⟨"TrayBoxModel", "swaps", "(II)V"⟩, 21), (⟨"TrayBoxModel", "plays", "(I)I"⟩, 21)]
theorem lw_r4 : ∀ q ∈ lw_privs_4, lw_okq q := List.forall_mem_cons.mpr ⟨lw_p48, List.forall_mem_cons.mpr ⟨lw_p49, List.forall_mem_cons.mpr ⟨lw_p50, List.forall_mem_cons.mpr ⟨lw_p51, List.forall_mem_cons.mpr ⟨lw_p52, List.forall_mem_cons.mpr ⟨lw_p53, List.forall_mem_cons.mpr ⟨lw_p54, List.forall_mem_cons.mpr ⟨lw_p55, List.forall_mem_cons.mpr ⟨lw_p56, List.forall_mem_cons.mpr ⟨lw_p57, List.forall_mem_cons.mpr ⟨lw_p58, List.forall_mem_cons.mpr ⟨lw_p59, List.forall_mem_cons.mpr ⟨lw_p60, List.forall_mem_cons.mpr ⟨lw_p61, List.forall_mem_cons.mpr ⟨lw_p62, List.forall_mem_cons.mpr ⟨lw_p63, fun _ h => absurd h List.not_mem_nil⟩⟩⟩⟩⟩⟩⟩⟩⟩⟩⟩⟩⟩⟩⟩⟩
theorem lw_p64 : lw_okq (⟨"TrayBoxModel", "gets", "(I)I"⟩, 21) := ⟨⟨by decide +kernel, by decide +kernel⟩, List.mem_of_getElem? (i := 662) (by decide +kernel), List.mem_of_getElem? (i := 1007) (by decide +kernel), List.mem_of_getElem? (i := 1008) (by decide +kernel)⟩
theorem lw_p65 : lw_okq (⟨"TrayBoxModel", "frees", "()I"⟩, 21) := ⟨⟨by decide +kernel, by decide +kernel⟩, List.mem_of_getElem? (i := 662) (by decide +kernel), List.mem_of_getElem? (i := 1019) (by decide +kernel), List.mem_of_getElem? (i := 1020) (by decide +kernel)⟩
theorem lw_p66 : lw_okq (⟨"TrayBoxModel", "lifts", "()I"⟩, 21) := ⟨⟨by decide +kernel, by decide +kernel⟩, List.mem_of_getElem? (i := 662) (by decide +kernel), List.mem_of_getElem? (i := 1023) (by decide +kernel), List.mem_of_getElem? (i := 1024) (by decide +kernel)⟩
theorem lw_p67 : lw_okq (⟨"TrayBoxModel", "mixes", "(I)V"⟩, 21) := ⟨⟨by decide +kernel, by decide +kernel⟩, List.mem_of_getElem? (i := 662) (by decide +kernel), List.mem_of_getElem? (i := 1033) (by decide +kernel), List.mem_of_getElem? (i := 1034) (by decide +kernel)⟩
def lw_privs_5 : List (MethodName × Nat) := [(⟨"TrayBoxModel", "gets", "(I)I"⟩, 21), (⟨"TrayBoxModel", "frees", "()I"⟩, 21), (⟨"TrayBoxModel", "lifts", "()I"⟩, 21), (⟨"TrayBoxModel", "mixes", "(I)V"⟩, 21)]
theorem lw_r5 : ∀ q ∈ lw_privs_5, lw_okq q := List.forall_mem_cons.mpr ⟨lw_p64, List.forall_mem_cons.mpr ⟨lw_p65, List.forall_mem_cons.mpr ⟨lw_p66, List.forall_mem_cons.mpr ⟨lw_p67, fun _ h => absurd h List.not_mem_nil⟩⟩⟩⟩
def lw_privs : List (MethodName × Nat) := lw_privs_1 ++ (lw_privs_2 ++ (lw_privs_3 ++ (lw_privs_4 ++ (lw_privs_5))))
def lw_tbl : List Cond := k2_sels lw_privs ++ tables_1
theorem lw_privs_ok : ∀ q ∈ lw_privs, lw_okq q := by
  show ∀ q ∈ lw_privs_1 ++ (lw_privs_2 ++ (lw_privs_3 ++ (lw_privs_4 ++ (lw_privs_5)))), lw_okq q
  exact List.forall_mem_append.mpr ⟨lw_r1, List.forall_mem_append.mpr ⟨lw_r2, List.forall_mem_append.mpr ⟨lw_r3, List.forall_mem_append.mpr ⟨lw_r4, lw_r5⟩⟩⟩⟩
/-- the tables' words that a method's contract may carry -/
def lwT : List Cond := lw_tbl.filter goodWord
theorem lwT_in : ∀ w ∈ lwT, w ∈ lw_tbl := fun w h => (List.mem_filter.mp h).1
theorem lwT_good : ∀ w ∈ lwT, (w.onTables && w.keeps) = true ∨ ∃ ty, w = .arrayClass ty := fun w h => good_of_word (List.mem_filter.mp h).2
theorem lwT_p {w : Cond} (h : w ∈ k2_sels lw_privs) (g : goodWord w = true) : w ∈ lwT := List.mem_filter.mpr ⟨List.mem_append_left _ h, g⟩
theorem lwT_t {w : Cond} (h : w ∈ tables_1) (g : goodWord w = true) : w ∈ lwT := List.mem_filter.mpr ⟨List.mem_append_right _ h, g⟩
end
section
def RX0 : String := "TrayBox$Box"
def TX0 : u_T := fun k => match k with
  | 0 => ("TrayBox$Box", "width", "I", false)
  | 1 => ("TrayBox$Box", "length", "I", false)
  | 2 => ("TrayBox$Box", "depth", "I", false)
  | 3 => ("TrayBox$Box", "share", "I", false)
  | 4 => ("TrayBox$Box", "trays", "I", false)
  | _ => ("TrayBox$Box", "row", "[LTrayBox$Tray;", true)
def tyX0 : Nat → FieldType := fun k => match k with
  | 0 => .int
  | 1 => .int
  | 2 => .int
  | 3 => .int
  | 4 => .int
  | _ => .array (.object "TrayBox$Tray")
theorem nmX0 : ∀ a, a < 6 → ∀ b, b < 6 → a ≠ b → (TX0 a).2.1 ≠ (TX0 b).2.1 := by decide +kernel
theorem tyX0_ok : ∀ k, k < 6 → parseFieldDescriptor (TX0 k).2.2.1 = some (tyX0 k) := by decide +kernel
abbrev cX0_init : ByteArray := prog_2_method_1_code
def yX0_init : MethodName := ⟨RX0, "<init>", "()V"⟩
abbrev cX0_copyFrom : ByteArray := prog_2_method_2_code
def yX0_copyFrom : MethodName := ⟨RX0, "copyFrom", "(LTrayBox$Box;)V"⟩
abbrev cX0_copyTrays : ByteArray := prog_2_method_3_code
def yX0_copyTrays : MethodName := ⟨RX0, "copyTrays", "(LTrayBox$Box;)V"⟩
abbrev cX0_clear : ByteArray := prog_2_method_4_code
def yX0_clear : MethodName := ⟨RX0, "clear", "()V"⟩
abbrev cX0_remove : ByteArray := prog_2_method_5_code
def yX0_remove : MethodName := ⟨RX0, "remove", "(I)V"⟩
abbrev cX0_has : ByteArray := prog_2_method_6_code
def yX0_has : MethodName := ⟨RX0, "has", "(I)Z"⟩
abbrev cX0_encloses : ByteArray := prog_2_method_7_code
def yX0_encloses : MethodName := ⟨RX0, "encloses", "(LTrayBox$Tray;IIZ)Z"⟩
abbrev cX0_highestFloor : ByteArray := prog_2_method_8_code
def yX0_highestFloor : MethodName := ⟨RX0, "highestFloor", "(LTrayBox$Tray;)I"⟩
abbrev cX0_inside : ByteArray := prog_2_method_9_code
def yX0_inside : MethodName := ⟨RX0, "inside", "()I"⟩
abbrev cX0_uppermost : ByteArray := prog_2_method_10_code
def yX0_uppermost : MethodName := ⟨RX0, "uppermost", "(II)I"⟩
abbrev cX0_isFree : ByteArray := prog_2_method_11_code
def yX0_isFree : MethodName := ⟨RX0, "isFree", "(I)Z"⟩
abbrev cX0_lyingOn : ByteArray := prog_2_method_12_code
def yX0_lyingOn : MethodName := ⟨RX0, "lyingOn", "(I)I"⟩
abbrev cX0_above : ByteArray := prog_2_method_13_code
def yX0_above : MethodName := ⟨RX0, "above", "(II)I"⟩
abbrev cX0_faultOf : ByteArray := prog_2_method_14_code
def yX0_faultOf : MethodName := ⟨RX0, "faultOf", "(I)I"⟩
abbrev cX0_faults : ByteArray := prog_2_method_15_code
def yX0_faults : MethodName := ⟨RX0, "faults", "()I"⟩
abbrev cX0_lateOnes : ByteArray := prog_2_method_16_code
def yX0_lateOnes : MethodName := ⟨RX0, "lateOnes", "(II)I"⟩
abbrev cX0_lifts : ByteArray := prog_2_method_17_code
def yX0_lifts : MethodName := ⟨RX0, "lifts", "()I"⟩
abbrev cX0_freeTrays : ByteArray := prog_2_method_18_code
def yX0_freeTrays : MethodName := ⟨RX0, "freeTrays", "()I"⟩
abbrev cX0_filledHeight : ByteArray := prog_2_method_19_code
def yX0_filledHeight : MethodName := ⟨RX0, "filledHeight", "()I"⟩
abbrev cX0_air : ByteArray := prog_2_method_20_code
def yX0_air : MethodName := ⟨RX0, "air", "()I"⟩
abbrev cX0_playedLifts : ByteArray := prog_2_method_21_code
def yX0_playedLifts : MethodName := ⟨RX0, "playedLifts", "(I)I"⟩
def RX1 : String := "TrayBox$Finder"
def TX1 : u_T := fun k => match k with
  | 0 => ("TrayBox$Finder", "tops", "[I", true)
  | 1 => ("TrayBox$Finder", "floor", "I", false)
  | 2 => ("TrayBox$Finder", "rest", "I", false)
  | 3 => ("TrayBox$Finder", "found", "I", false)
  | 4 => ("TrayBox$Finder", "bestX", "I", false)
  | 5 => ("TrayBox$Finder", "bestY", "I", false)
  | 6 => ("TrayBox$Finder", "bestTurned", "Z", false)
  | 7 => ("TrayBox$Finder", "bestFloor", "I", false)
  | _ => ("TrayBox$Finder", "bestRest", "I", false)
def tyX1 : Nat → FieldType := fun k => match k with
  | 0 => .array .int
  | 1 => .int
  | 2 => .int
  | 3 => .int
  | 4 => .int
  | 5 => .int
  | 6 => .boolean
  | 7 => .int
  | _ => .int
theorem nmX1 : ∀ a, a < 9 → ∀ b, b < 9 → a ≠ b → (TX1 a).2.1 ≠ (TX1 b).2.1 := by decide +kernel
theorem tyX1_ok : ∀ k, k < 9 → parseFieldDescriptor (TX1 k).2.2.1 = some (tyX1 k) := by decide +kernel
abbrev cX1_init : ByteArray := prog_3_method_1_code
def yX1_init : MethodName := ⟨RX1, "<init>", "()V"⟩
abbrev cX1_survey : ByteArray := prog_3_method_2_code
def yX1_survey : MethodName := ⟨RX1, "survey", "(LTrayBox$Box;)V"⟩
abbrev cX1_raise : ByteArray := prog_3_method_3_code
def yX1_raise : MethodName := ⟨RX1, "raise", "(LTrayBox$Box;LTrayBox$Tray;)V"⟩
abbrev cX1_holds : ByteArray := prog_3_method_4_code
def yX1_holds : MethodName := ⟨RX1, "holds", "(LTrayBox$Box;LTrayBox$Tray;IIZI)Z"⟩
abbrev cX1_search : ByteArray := prog_3_method_5_code
def yX1_search : MethodName := ⟨RX1, "search", "(LTrayBox$Box;LTrayBox$Tray;Z)V"⟩
abbrev cX1_keep : ByteArray := prog_3_method_6_code
def yX1_keep : MethodName := ⟨RX1, "keep", "(IIZ)V"⟩
def RX2 : String := "TrayBox$History"
def TX2 : u_T := fun k => match k with
  | 0 => ("TrayBox$History", "size", "I", false)
  | 1 => ("TrayBox$History", "oldest", "I", false)
  | _ => ("TrayBox$History", "ring", "[LTrayBox$Box;", true)
def tyX2 : Nat → FieldType := fun k => match k with
  | 0 => .int
  | 1 => .int
  | _ => .array (.object "TrayBox$Box")
theorem nmX2 : ∀ a, a < 3 → ∀ b, b < 3 → a ≠ b → (TX2 a).2.1 ≠ (TX2 b).2.1 := by decide +kernel
theorem tyX2_ok : ∀ k, k < 3 → parseFieldDescriptor (TX2 k).2.2.1 = some (tyX2 k) := by decide +kernel
abbrev cX2_init : ByteArray := prog_4_method_1_code
def yX2_init : MethodName := ⟨RX2, "<init>", "()V"⟩
abbrev cX2_record : ByteArray := prog_4_method_2_code
def yX2_record : MethodName := ⟨RX2, "record", "(LTrayBox$Box;)V"⟩
abbrev cX2_restore : ByteArray := prog_4_method_3_code
def yX2_restore : MethodName := ⟨RX2, "restore", "(LTrayBox$Box;)V"⟩
def RX3 : String := "TrayBox$Packer"
def TX3 : u_T := fun k => match k with
  | 0 => ("TrayBox$Packer", "order", "[I", true)
  | 1 => ("TrayBox$Packer", "figures", "[I", true)
  | 2 => ("TrayBox$Packer", "trial", "LTrayBox$Box;", true)
  | 3 => ("TrayBox$Packer", "triedOrder", "[I", true)
  | 4 => ("TrayBox$Packer", "triedFigures", "[I", true)
  | _ => ("TrayBox$Packer", "finder", "LTrayBox$Finder;", true)
def tyX3 : Nat → FieldType := fun k => match k with
  | 0 => .array .int
  | 1 => .array .int
  | 2 => .object "TrayBox$Box"
  | 3 => .array .int
  | 4 => .array .int
  | _ => .object "TrayBox$Finder"
theorem nmX3 : ∀ a, a < 6 → ∀ b, b < 6 → a ≠ b → (TX3 a).2.1 ≠ (TX3 b).2.1 := by decide +kernel
theorem tyX3_ok : ∀ k, k < 6 → parseFieldDescriptor (TX3 k).2.2.1 = some (tyX3 k) := by decide +kernel
abbrev cX3_init : ByteArray := prog_5_method_1_code
def yX3_init : MethodName := ⟨RX3, "<init>", "()V"⟩
abbrev cX3_packUsually : ByteArray := prog_5_method_2_code
def yX3_packUsually : MethodName := ⟨RX3, "packUsually", "(LTrayBox$Box;)V"⟩
abbrev cX3_isBefore : ByteArray := prog_5_method_3_code
def yX3_isBefore : MethodName := ⟨RX3, "isBefore", "(LTrayBox$Tray;LTrayBox$Tray;)Z"⟩
abbrev cX3_packByBest : ByteArray := prog_5_method_4_code
def yX3_packByBest : MethodName := ⟨RX3, "packByBest", "(LTrayBox$Box;)V"⟩
abbrev cX3_letDownFrom : ByteArray := prog_5_method_5_code
def yX3_letDownFrom : MethodName := ⟨RX3, "letDownFrom", "([II)V"⟩
abbrev cX3_measure : ByteArray := prog_5_method_6_code
def yX3_measure : MethodName := ⟨RX3, "measure", "([I)V"⟩
abbrev cX3_isTriedBetter : ByteArray := prog_5_method_7_code
def yX3_isTriedBetter : MethodName := ⟨RX3, "isTriedBetter", "()Z"⟩
abbrev cX3_stepToNextOrder : ByteArray := prog_5_method_8_code
def yX3_stepToNextOrder : MethodName := ⟨RX3, "stepToNextOrder", "()I"⟩
abbrev cX3_swap : ByteArray := prog_5_method_9_code
def yX3_swap : MethodName := ⟨RX3, "swap", "(II)V"⟩
def RX4 : String := "TrayBox$Text"
def TX4 : u_T := fun k => match k with
  | 0 => ("TrayBox$Text", "length", "I", false)
  | 1 => ("TrayBox$Text", "fault", "I", false)
  | 2 => ("TrayBox$Text", "result", "LTrayBox$Box;", true)
  | 3 => ("TrayBox$Text", "signs", "[C", true)
  | 4 => ("TrayBox$Text", "at", "I", false)
  | _ => ("TrayBox$Text", "number", "I", false)
def tyX4 : Nat → FieldType := fun k => match k with
  | 0 => .int
  | 1 => .int
  | 2 => .object "TrayBox$Box"
  | 3 => .array .char
  | 4 => .int
  | _ => .int
theorem nmX4 : ∀ a, a < 6 → ∀ b, b < 6 → a ≠ b → (TX4 a).2.1 ≠ (TX4 b).2.1 := by decide +kernel
theorem tyX4_ok : ∀ k, k < 6 → parseFieldDescriptor (TX4 k).2.2.1 = some (tyX4 k) := by decide +kernel
abbrev cX4_init : ByteArray := prog_6_method_1_code
def yX4_init : MethodName := ⟨RX4, "<init>", "()V"⟩
abbrev cX4_append : ByteArray := prog_6_method_2_code
def yX4_append : MethodName := ⟨RX4, "append", "(C)V"⟩
abbrev cX4_read : ByteArray := prog_6_method_3_code
def yX4_read : MethodName := ⟨RX4, "read", "()I"⟩
abbrev cX4_readTray : ByteArray := prog_6_method_4_code
def yX4_readTray : MethodName := ⟨RX4, "readTray", "()Z"⟩
abbrev cX4_readNumber : ByteArray := prog_6_method_5_code
def yX4_readNumber : MethodName := ⟨RX4, "readNumber", "(I)Z"⟩
abbrev cX4_readSign : ByteArray := prog_6_method_6_code
def yX4_readSign : MethodName := ⟨RX4, "readSign", "(C)Z"⟩
abbrev cX4_readLid : ByteArray := prog_6_method_7_code
def yX4_readLid : MethodName := ⟨RX4, "readLid", "(LTrayBox$Tray;)Z"⟩
abbrev cX4_readTurn : ByteArray := prog_6_method_8_code
def yX4_readTurn : MethodName := ⟨RX4, "readTurn", "(LTrayBox$Tray;)Z"⟩
abbrev cX4_next : ByteArray := prog_6_method_9_code
def yX4_next : MethodName := ⟨RX4, "next", "()C"⟩
abbrev cX4_fail : ByteArray := prog_6_method_10_code
def yX4_fail : MethodName := ⟨RX4, "fail", "(II)Z"⟩
abbrev cX4_isDigit : ByteArray := prog_6_method_11_code
def yX4_isDigit : MethodName := ⟨RX4, "isDigit", "(C)Z"⟩
def RX5 : String := "TrayBox$Tray"
def TX5 : u_T := fun k => match k with
  | 0 => ("TrayBox$Tray", "width", "I", false)
  | 1 => ("TrayBox$Tray", "length", "I", false)
  | 2 => ("TrayBox$Tray", "height", "I", false)
  | 3 => ("TrayBox$Tray", "turn", "I", false)
  | 4 => ("TrayBox$Tray", "lid", "I", false)
  | 5 => ("TrayBox$Tray", "inside", "Z", false)
  | 6 => ("TrayBox$Tray", "turned", "Z", false)
  | 7 => ("TrayBox$Tray", "x", "I", false)
  | 8 => ("TrayBox$Tray", "y", "I", false)
  | 9 => ("TrayBox$Tray", "endX", "I", false)
  | 10 => ("TrayBox$Tray", "endY", "I", false)
  | 11 => ("TrayBox$Tray", "floor", "I", false)
  | 12 => ("TrayBox$Tray", "top", "I", false)
  | _ => ("TrayBox$Tray", "rest", "I", false)
def tyX5 : Nat → FieldType := fun k => match k with
  | 0 => .int
  | 1 => .int
  | 2 => .int
  | 3 => .int
  | 4 => .int
  | 5 => .boolean
  | 6 => .boolean
  | 7 => .int
  | 8 => .int
  | 9 => .int
  | 10 => .int
  | 11 => .int
  | 12 => .int
  | _ => .int
theorem nmX5 : ∀ a, a < 14 → ∀ b, b < 14 → a ≠ b → (TX5 a).2.1 ≠ (TX5 b).2.1 := by decide +kernel
theorem tyX5_ok : ∀ k, k < 14 → parseFieldDescriptor (TX5 k).2.2.1 = some (tyX5 k) := by decide +kernel
abbrev cX5_init : ByteArray := prog_7_method_1_code
def yX5_init : MethodName := ⟨RX5, "<init>", "()V"⟩
abbrev cX5_become : ByteArray := prog_7_method_2_code
def yX5_become : MethodName := ⟨RX5, "become", "(IIII)V"⟩
abbrev cX5_copyFrom : ByteArray := prog_7_method_3_code
def yX5_copyFrom : MethodName := ⟨RX5, "copyFrom", "(LTrayBox$Tray;)V"⟩
abbrev cX5_lie : ByteArray := prog_7_method_4_code
def yX5_lie : MethodName := ⟨RX5, "lie", "(IIZII)V"⟩
abbrev cX5_leave : ByteArray := prog_7_method_5_code
def yX5_leave : MethodName := ⟨RX5, "leave", "()V"⟩
abbrev cX5_alongX : ByteArray := prog_7_method_6_code
def yX5_alongX : MethodName := ⟨RX5, "alongX", "(Z)I"⟩
abbrev cX5_alongY : ByteArray := prog_7_method_7_code
def yX5_alongY : MethodName := ⟨RX5, "alongY", "(Z)I"⟩
abbrev cX5_area : ByteArray := prog_7_method_8_code
def yX5_area : MethodName := ⟨RX5, "area", "()I"⟩
abbrev cX5_tall : ByteArray := prog_7_method_9_code
def yX5_tall : MethodName := ⟨RX5, "tall", "()I"⟩
abbrev cX5_covers : ByteArray := prog_7_method_10_code
def yX5_covers : MethodName := ⟨RX5, "covers", "(II)Z"⟩
abbrev cX5_liesOn : ByteArray := prog_7_method_11_code
def yX5_liesOn : MethodName := ⟨RX5, "liesOn", "(LTrayBox$Tray;)Z"⟩
abbrev cX5_property : ByteArray := prog_7_method_12_code
def yX5_property : MethodName := ⟨RX5, "property", "(I)I"⟩
def RX6 : String := "TrayBox"
def TX6 : u_T := fun k => match k with
  | 0 => ("TrayBox", "box", "LTrayBox$Box;", true)
  | 1 => ("TrayBox", "history", "LTrayBox$History;", true)
  | 2 => ("TrayBox", "text", "LTrayBox$Text;", true)
  | 3 => ("TrayBox", "finder", "LTrayBox$Finder;", true)
  | _ => ("TrayBox", "packer", "LTrayBox$Packer;", true)
def tyX6 : Nat → FieldType := fun k => match k with
  | 0 => .object "TrayBox$Box"
  | 1 => .object "TrayBox$History"
  | 2 => .object "TrayBox$Text"
  | 3 => .object "TrayBox$Finder"
  | _ => .object "TrayBox$Packer"
theorem nmX6 : ∀ a, a < 5 → ∀ b, b < 5 → a ≠ b → (TX6 a).2.1 ≠ (TX6 b).2.1 := by decide +kernel
theorem tyX6_ok : ∀ k, k < 5 → parseFieldDescriptor (TX6 k).2.2.1 = some (tyX6 k) := by decide +kernel
abbrev cX6_init : ByteArray := prog_1_method_1_code
def yX6_init : MethodName := ⟨RX6, "<init>", "()V"⟩
abbrev cX6_setBox : ByteArray := prog_1_method_2_code
def yX6_setBox : MethodName := ⟨RX6, "setBox", "(III)I"⟩
abbrev cX6_setShare : ByteArray := prog_1_method_3_code
def yX6_setShare : MethodName := ⟨RX6, "setShare", "(I)I"⟩
abbrev cX6_type : ByteArray := prog_1_method_4_code
def yX6_type : MethodName := ⟨RX6, "type", "(I)I"⟩
abbrev cX6_clearText : ByteArray := prog_1_method_5_code
def yX6_clearText : MethodName := ⟨RX6, "clearText", "()I"⟩
abbrev cX6_load : ByteArray := prog_1_method_6_code
def yX6_load : MethodName := ⟨RX6, "load", "()I"⟩
abbrev cX6_faultKind : ByteArray := prog_1_method_7_code
def yX6_faultKind : MethodName := ⟨RX6, "faultKind", "()I"⟩
abbrev cX6_add : ByteArray := prog_1_method_8_code
def yX6_add : MethodName := ⟨RX6, "add", "(IIII)I"⟩
abbrev cX6_drop : ByteArray := prog_1_method_9_code
def yX6_drop : MethodName := ⟨RX6, "drop", "(I)I"⟩
abbrev cX6_setTray : ByteArray := prog_1_method_10_code
def yX6_setTray : MethodName := ⟨RX6, "setTray", "(III)I"⟩
abbrev cX6_letDown : ByteArray := prog_1_method_11_code
def yX6_letDown : MethodName := ⟨RX6, "letDown", "(IIIZ)I"⟩
abbrev cX6_takeOut : ByteArray := prog_1_method_12_code
def yX6_takeOut : MethodName := ⟨RX6, "takeOut", "(I)I"⟩
abbrev cX6_empty : ByteArray := prog_1_method_13_code
def yX6_empty : MethodName := ⟨RX6, "empty", "()I"⟩
abbrev cX6_tray : ByteArray := prog_1_method_14_code
def yX6_tray : MethodName := ⟨RX6, "tray", "(II)I"⟩
abbrev cX6_seen : ByteArray := prog_1_method_15_code
def yX6_seen : MethodName := ⟨RX6, "seen", "(IIZ)I"⟩
abbrev cX6_place : ByteArray := prog_1_method_16_code
def yX6_place : MethodName := ⟨RX6, "place", "(II)I"⟩
abbrev cX6_places : ByteArray := prog_1_method_17_code
def yX6_places : MethodName := ⟨RX6, "places", "(I)I"⟩
abbrev cX6_pack : ByteArray := prog_1_method_18_code
def yX6_pack : MethodName := ⟨RX6, "pack", "()I"⟩
abbrev cX6_packBest : ByteArray := prog_1_method_19_code
def yX6_packBest : MethodName := ⟨RX6, "packBest", "()I"⟩
abbrev cX6_ifPacked : ByteArray := prog_1_method_20_code
def yX6_ifPacked : MethodName := ⟨RX6, "ifPacked", "(ZI)I"⟩
abbrev cX6_play : ByteArray := prog_1_method_21_code
def yX6_play : MethodName := ⟨RX6, "play", "()I"⟩
abbrev cX6_liftsTo : ByteArray := prog_1_method_22_code
def yX6_liftsTo : MethodName := ⟨RX6, "liftsTo", "(I)I"⟩
abbrev cX6_undo : ByteArray := prog_1_method_23_code
def yX6_undo : MethodName := ⟨RX6, "undo", "()I"⟩
abbrev cX6_count : ByteArray := prog_1_method_24_code
def yX6_count : MethodName := ⟨RX6, "count", "(I)I"⟩
abbrev cX6_digest : ByteArray := prog_1_method_25_code
def yX6_digest : MethodName := ⟨RX6, "digest", "()J"⟩
abbrev cX6_isWithin : ByteArray := prog_1_method_26_code
def yX6_isWithin : MethodName := ⟨RX6, "isWithin", "(III)Z"⟩
abbrev cX6_placedProperty : ByteArray := prog_1_method_27_code
def yX6_placedProperty : MethodName := ⟨RX6, "placedProperty", "(II)I"⟩
abbrev cX6_takeOverPacked : ByteArray := prog_1_method_28_code
def yX6_takeOverPacked : MethodName := ⟨RX6, "takeOverPacked", "()I"⟩
def RX7 : String := "TrayBoxModel"
def TX7 : u_T := fun k => match k with
  | 0 => ("TrayBoxModel", "page", "[I", true)
  | 1 => ("TrayBoxModel", "backMany", "I", false)
  | 2 => ("TrayBoxModel", "tops", "[I", true)
  | 3 => ("TrayBoxModel", "floorThere", "I", false)
  | 4 => ("TrayBoxModel", "restsThere", "I", false)
  | 5 => ("TrayBoxModel", "text", "[I", true)
  | 6 => ("TrayBoxModel", "typed", "I", false)
  | 7 => ("TrayBoxModel", "fault", "I", false)
  | 8 => ("TrayBoxModel", "faultAt", "I", false)
  | 9 => ("TrayBoxModel", "spot", "I", false)
  | 10 => ("TrayBoxModel", "number", "I", false)
  | 11 => ("TrayBoxModel", "bestX", "I", false)
  | 12 => ("TrayBoxModel", "bestY", "I", false)
  | 13 => ("TrayBoxModel", "bestWay", "I", false)
  | 14 => ("TrayBoxModel", "bestTop", "I", false)
  | 15 => ("TrayBoxModel", "placesMany", "I", false)
  | 16 => ("TrayBoxModel", "order", "[I", true)
  | 17 => ("TrayBoxModel", "bestOrder", "[I", true)
  | 18 => ("TrayBoxModel", "bestOnes", "[I", true)
  | 19 => ("TrayBoxModel", "lifted", "[I", true)
  | _ => ("TrayBoxModel", "hash", "J", false)
def tyX7 : Nat → FieldType := fun k => match k with
  | 0 => .array .int
  | 1 => .int
  | 2 => .array .int
  | 3 => .int
  | 4 => .int
  | 5 => .array .int
  | 6 => .int
  | 7 => .int
  | 8 => .int
  | 9 => .int
  | 10 => .int
  | 11 => .int
  | 12 => .int
  | 13 => .int
  | 14 => .int
  | 15 => .int
  | 16 => .array .int
  | 17 => .array .int
  | 18 => .array .int
  | 19 => .array .int
  | _ => .long
theorem nmX7 : ∀ a, a < 21 → ∀ b, b < 21 → a ≠ b → (TX7 a).2.1 ≠ (TX7 b).2.1 := by decide +kernel
theorem tyX7_ok : ∀ k, k < 21 → parseFieldDescriptor (TX7 k).2.2.1 = some (tyX7 k) := by decide +kernel
abbrev cX7_init : ByteArray := prog_9_method_1_code
def yX7_init : MethodName := ⟨RX7, "<init>", "()V"⟩
abbrev cX7_in : ByteArray := prog_9_method_3_code
def yX7_in : MethodName := ⟨RX7, "in", "(III)Z"⟩
abbrev cX7_copies : ByteArray := prog_9_method_4_code
def yX7_copies : MethodName := ⟨RX7, "copies", "(II)V"⟩
abbrev cX7_records : ByteArray := prog_9_method_5_code
def yX7_records : MethodName := ⟨RX7, "records", "()V"⟩
abbrev cX7_undo : ByteArray := prog_9_method_6_code
def yX7_undo : MethodName := ⟨RX7, "undo", "()I"⟩
abbrev cX7_of : ByteArray := prog_9_method_7_code
def yX7_of : MethodName := ⟨RX7, "of", "(II)I"⟩
abbrev cX7_sets : ByteArray := prog_9_method_8_code
def yX7_sets : MethodName := ⟨RX7, "sets", "(III)V"⟩
abbrev cX7_trays : ByteArray := prog_9_method_9_code
def yX7_trays : MethodName := ⟨RX7, "trays", "()I"⟩
abbrev cX7_isTray : ByteArray := prog_9_method_10_code
def yX7_isTray : MethodName := ⟨RX7, "isTray", "(I)Z"⟩
abbrev cX7_isIn : ByteArray := prog_9_method_11_code
def yX7_isIn : MethodName := ⟨RX7, "isIn", "(I)Z"⟩
abbrev cX7_high : ByteArray := prog_9_method_12_code
def yX7_high : MethodName := ⟨RX7, "high", "(I)I"⟩
abbrev cX7_top : ByteArray := prog_9_method_13_code
def yX7_top : MethodName := ⟨RX7, "top", "(I)I"⟩
abbrev cX7_along : ByteArray := prog_9_method_14_code
def yX7_along : MethodName := ⟨RX7, "along", "(IZZ)I"⟩
abbrev cX7_spans : ByteArray := prog_9_method_15_code
def yX7_spans : MethodName := ⟨RX7, "spans", "(IZ)I"⟩
abbrev cX7_covers : ByteArray := prog_9_method_16_code
def yX7_covers : MethodName := ⟨RX7, "covers", "(III)Z"⟩
abbrev cX7_leaves : ByteArray := prog_9_method_17_code
def yX7_leaves : MethodName := ⟨RX7, "leaves", "(I)V"⟩
abbrev cX7_inBox : ByteArray := prog_9_method_18_code
def yX7_inBox : MethodName := ⟨RX7, "inBox", "()I"⟩
abbrev cX7_empties : ByteArray := prog_9_method_19_code
def yX7_empties : MethodName := ⟨RX7, "empties", "()V"⟩
abbrev cX7_laysTops : ByteArray := prog_9_method_20_code
def yX7_laysTops : MethodName := ⟨RX7, "laysTops", "()V"⟩
abbrev cX7_isInside : ByteArray := prog_9_method_21_code
def yX7_isInside : MethodName := ⟨RX7, "isInside", "(IIIZ)Z"⟩
abbrev cX7_looksAt : ByteArray := prog_9_method_22_code
def yX7_looksAt : MethodName := ⟨RX7, "looksAt", "(IIIZ)V"⟩
abbrev cX7_can : ByteArray := prog_9_method_23_code
def yX7_can : MethodName := ⟨RX7, "can", "(IIIZ)Z"⟩
abbrev cX7_comes : ByteArray := prog_9_method_24_code
def yX7_comes : MethodName := ⟨RX7, "comes", "(IIII)V"⟩
abbrev cX7_letDown : ByteArray := prog_9_method_25_code
def yX7_letDown : MethodName := ⟨RX7, "letDown", "(IIIZ)I"⟩
abbrev cX7_meet : ByteArray := prog_9_method_26_code
def yX7_meet : MethodName := ⟨RX7, "meet", "(II)Z"⟩
abbrev cX7_liesOn : ByteArray := prog_9_method_27_code
def yX7_liesOn : MethodName := ⟨RX7, "liesOn", "(II)Z"⟩
abbrev cX7_above : ByteArray := prog_9_method_28_code
def yX7_above : MethodName := ⟨RX7, "above", "(I)I"⟩
abbrev cX7_lift : ByteArray := prog_9_method_29_code
def yX7_lift : MethodName := ⟨RX7, "lift", "(I)I"⟩
abbrev cX7_fault : ByteArray := prog_9_method_30_code
def yX7_fault : MethodName := ⟨RX7, "fault", "(I)I"⟩
abbrev cX7_rests : ByteArray := prog_9_method_31_code
def yX7_rests : MethodName := ⟨RX7, "rests", "(I)I"⟩
abbrev cX7_faults : ByteArray := prog_9_method_32_code
def yX7_faults : MethodName := ⟨RX7, "faults", "()I"⟩
abbrev cX7_lifts : ByteArray := prog_9_method_33_code
def yX7_lifts : MethodName := ⟨RX7, "lifts", "()I"⟩
abbrev cX7_frees : ByteArray := prog_9_method_34_code
def yX7_frees : MethodName := ⟨RX7, "frees", "()I"⟩
abbrev cX7_boxHeight : ByteArray := prog_9_method_35_code
def yX7_boxHeight : MethodName := ⟨RX7, "boxHeight", "()I"⟩
abbrev cX7_air : ByteArray := prog_9_method_36_code
def yX7_air : MethodName := ⟨RX7, "air", "()I"⟩
abbrev cX7_type : ByteArray := prog_9_method_37_code
def yX7_type : MethodName := ⟨RX7, "type", "(I)I"⟩
abbrev cX7_clearText : ByteArray := prog_9_method_38_code
def yX7_clearText : MethodName := ⟨RX7, "clearText", "()I"⟩
abbrev cX7_here : ByteArray := prog_9_method_39_code
def yX7_here : MethodName := ⟨RX7, "here", "()I"⟩
abbrev cX7_isDigit : ByteArray := prog_9_method_40_code
def yX7_isDigit : MethodName := ⟨RX7, "isDigit", "()Z"⟩
abbrev cX7_fails : ByteArray := prog_9_method_41_code
def yX7_fails : MethodName := ⟨RX7, "fails", "(II)Z"⟩
abbrev cX7_takes : ByteArray := prog_9_method_42_code
def yX7_takes : MethodName := ⟨RX7, "takes", "(I)Z"⟩
abbrev cX7_readsNumber : ByteArray := prog_9_method_43_code
def yX7_readsNumber : MethodName := ⟨RX7, "readsNumber", "(III)Z"⟩
abbrev cX7_readsInto : ByteArray := prog_9_method_44_code
def yX7_readsInto : MethodName := ⟨RX7, "readsInto", "(III)Z"⟩
abbrev cX7_readsTray : ByteArray := prog_9_method_45_code
def yX7_readsTray : MethodName := ⟨RX7, "readsTray", "()Z"⟩
abbrev cX7_load : ByteArray := prog_9_method_46_code
def yX7_load : MethodName := ⟨RX7, "load", "()I"⟩
abbrev cX7_recordsKept : ByteArray := prog_9_method_47_code
def yX7_recordsKept : MethodName := ⟨RX7, "recordsKept", "(I)V"⟩
abbrev cX7_faultKind : ByteArray := prog_9_method_48_code
def yX7_faultKind : MethodName := ⟨RX7, "faultKind", "()I"⟩
abbrev cX7_setBox : ByteArray := prog_9_method_49_code
def yX7_setBox : MethodName := ⟨RX7, "setBox", "(III)I"⟩
abbrev cX7_setShare : ByteArray := prog_9_method_50_code
def yX7_setShare : MethodName := ⟨RX7, "setShare", "(I)I"⟩
abbrev cX7_add : ByteArray := prog_9_method_51_code
def yX7_add : MethodName := ⟨RX7, "add", "(IIII)I"⟩
abbrev cX7_drop : ByteArray := prog_9_method_52_code
def yX7_drop : MethodName := ⟨RX7, "drop", "(I)I"⟩
abbrev cX7_setTray : ByteArray := prog_9_method_53_code
def yX7_setTray : MethodName := ⟨RX7, "setTray", "(III)I"⟩
abbrev cX7_takeOut : ByteArray := prog_9_method_54_code
def yX7_takeOut : MethodName := ⟨RX7, "takeOut", "(I)I"⟩
abbrev cX7_empty : ByteArray := prog_9_method_55_code
def yX7_empty : MethodName := ⟨RX7, "empty", "()I"⟩
abbrev cX7_tray : ByteArray := prog_9_method_56_code
def yX7_tray : MethodName := ⟨RX7, "tray", "(II)I"⟩
abbrev cX7_seen : ByteArray := prog_9_method_57_code
def yX7_seen : MethodName := ⟨RX7, "seen", "(IIZ)I"⟩
abbrev cX7_finds : ByteArray := prog_9_method_58_code
def yX7_finds : MethodName := ⟨RX7, "finds", "(I)V"⟩
abbrev cX7_place : ByteArray := prog_9_method_59_code
def yX7_place : MethodName := ⟨RX7, "place", "(II)I"⟩
abbrev cX7_places : ByteArray := prog_9_method_60_code
def yX7_places : MethodName := ⟨RX7, "places", "(I)I"⟩
abbrev cX7_isAhead : ByteArray := prog_9_method_61_code
def yX7_isAhead : MethodName := ⟨RX7, "isAhead", "(II)Z"⟩
abbrev cX7_ordersUsually : ByteArray := prog_9_method_62_code
def yX7_ordersUsually : MethodName := ⟨RX7, "ordersUsually", "()V"⟩
abbrev cX7_packs : ByteArray := prog_9_method_63_code
def yX7_packs : MethodName := ⟨RX7, "packs", "()V"⟩
abbrev cX7_swaps : ByteArray := prog_9_method_64_code
def yX7_swaps : MethodName := ⟨RX7, "swaps", "(II)V"⟩
abbrev cX7_ordersNext : ByteArray := prog_9_method_65_code
def yX7_ordersNext : MethodName := ⟨RX7, "ordersNext", "()Z"⟩
abbrev cX7_comesTo : ByteArray := prog_9_method_66_code
def yX7_comesTo : MethodName := ⟨RX7, "comesTo", "(I)I"⟩
abbrev cX7_isBetter : ByteArray := prog_9_method_67_code
def yX7_isBetter : MethodName := ⟨RX7, "isBetter", "()Z"⟩
abbrev cX7_ordersBest : ByteArray := prog_9_method_68_code
def yX7_ordersBest : MethodName := ⟨RX7, "ordersBest", "()V"⟩
abbrev cX7_pack : ByteArray := prog_9_method_69_code
def yX7_pack : MethodName := ⟨RX7, "pack", "()I"⟩
abbrev cX7_packBest : ByteArray := prog_9_method_70_code
def yX7_packBest : MethodName := ⟨RX7, "packBest", "()I"⟩
abbrev cX7_ifPacked : ByteArray := prog_9_method_71_code
def yX7_ifPacked : MethodName := ⟨RX7, "ifPacked", "(ZI)I"⟩
abbrev cX7_gets : ByteArray := prog_9_method_72_code
def yX7_gets : MethodName := ⟨RX7, "gets", "(I)I"⟩
abbrev cX7_plays : ByteArray := prog_9_method_73_code
def yX7_plays : MethodName := ⟨RX7, "plays", "(I)I"⟩
abbrev cX7_play : ByteArray := prog_9_method_74_code
def yX7_play : MethodName := ⟨RX7, "play", "()I"⟩
abbrev cX7_liftsTo : ByteArray := prog_9_method_75_code
def yX7_liftsTo : MethodName := ⟨RX7, "liftsTo", "(I)I"⟩
abbrev cX7_count : ByteArray := prog_9_method_76_code
def yX7_count : MethodName := ⟨RX7, "count", "(I)I"⟩
abbrev cX7_mixes : ByteArray := prog_9_method_77_code
def yX7_mixes : MethodName := ⟨RX7, "mixes", "(I)V"⟩
abbrev cX7_digest : ByteArray := prog_9_method_78_code
def yX7_digest : MethodName := ⟨RX7, "digest", "()J"⟩
def RJ6 : String := "java/lang/Integer"
abbrev cJ6_bitCount_0f7a4 : ByteArray := prog_10_method_49_code
def yJ6_bitCount_0f7a4 : MethodName := ⟨RJ6, "bitCount", "(I)I"⟩
def RJ9 : String := "java/lang/Math"
abbrev cJ9_max_7cf53 : ByteArray := prog_11_method_65_code
def yJ9_max_7cf53 : MethodName := ⟨RJ9, "max", "(II)I"⟩
def RJ10 : String := "java/lang/System"
def RL : String := "TrayBoxLaw"
abbrev cL_law : ByteArray := code
def yL_law : MethodName := ⟨RL, "law", "([I)Z"⟩
abbrev vwCl : List vw_C := [(RX0, TX0, 6), (RX1, TX1, 9), (RX2, TX2, 3), (RX3, TX3, 6), (RX4, TX4, 6), (RX5, TX5, 14), (RX6, TX6, 5), (RX7, TX7, 21)]
end
section
theorem dX0_init_0 : decode cX0_init 0 = .ok (.aload_n 0, 1) := by decide +kernel
theorem dX0_init_1 : decode cX0_init 1 = .ok (.invokespecial 3, 3) := by decide +kernel
theorem dX0_init_4 : decode cX0_init 4 = .ok (.aload_n 0, 1) := by decide +kernel
theorem dX0_init_5 : decode cX0_init 5 = .ok (.bipush 6, 2) := by decide +kernel
theorem dX0_init_7 : decode cX0_init 7 = .ok (.putfield 9, 3) := by decide +kernel
theorem dX0_init_10 : decode cX0_init 10 = .ok (.aload_n 0, 1) := by decide +kernel
theorem dX0_init_11 : decode cX0_init 11 = .ok (.bipush 6, 2) := by decide +kernel
theorem dX0_init_13 : decode cX0_init 13 = .ok (.putfield 15, 3) := by decide +kernel
theorem dX0_init_16 : decode cX0_init 16 = .ok (.aload_n 0, 1) := by decide +kernel
theorem dX0_init_17 : decode cX0_init 17 = .ok (.bipush 12, 2) := by decide +kernel
theorem dX0_init_19 : decode cX0_init 19 = .ok (.putfield 18, 3) := by decide +kernel
theorem dX0_init_22 : decode cX0_init 22 = .ok (.aload_n 0, 1) := by decide +kernel
theorem dX0_init_23 : decode cX0_init 23 = .ok (.bipush 50, 2) := by decide +kernel
theorem dX0_init_25 : decode cX0_init 25 = .ok (.putfield 21, 3) := by decide +kernel
theorem dX0_init_28 : decode cX0_init 28 = .ok (.aload_n 0, 1) := by decide +kernel
theorem dX0_init_29 : decode cX0_init 29 = .ok (.bipush 12, 2) := by decide +kernel
theorem dX0_init_31 : decode cX0_init 31 = .ok (.anewarray 24, 3) := by decide +kernel
theorem dX0_init_34 : decode cX0_init 34 = .ok (.putfield 26, 3) := by decide +kernel
theorem dX0_init_37 : decode cX0_init 37 = .ok (.iconst 0, 1) := by decide +kernel
theorem dX0_init_38 : decode cX0_init 38 = .ok (.istore_n 1, 1) := by decide +kernel
theorem dX0_init_39 : decode cX0_init 39 = .ok (.iload_n 1, 1) := by decide +kernel
theorem dX0_init_40 : decode cX0_init 40 = .ok (.bipush 12, 2) := by decide +kernel
theorem dX0_init_42 : decode cX0_init 42 = .ok (.if_icmp .ge 22, 3) := by decide +kernel
theorem dX0_init_45 : decode cX0_init 45 = .ok (.aload_n 0, 1) := by decide +kernel
theorem dX0_init_46 : decode cX0_init 46 = .ok (.getfield 26, 3) := by decide +kernel
theorem dX0_init_49 : decode cX0_init 49 = .ok (.iload_n 1, 1) := by decide +kernel
theorem dX0_init_50 : decode cX0_init 50 = .ok (.new 24, 3) := by decide +kernel
theorem dX0_init_53 : decode cX0_init 53 = .ok (.dup, 1) := by decide +kernel
theorem dX0_init_54 : decode cX0_init 54 = .ok (.invokespecial 30, 3) := by decide +kernel
theorem dX0_init_57 : decode cX0_init 57 = .ok (.aastore, 1) := by decide +kernel
theorem dX0_init_58 : decode cX0_init 58 = .ok (.iinc 1 1, 3) := by decide +kernel
theorem dX0_init_61 : decode cX0_init 61 = .ok (.goto (-22), 3) := by decide +kernel
theorem dX0_init_64 : decode cX0_init 64 = .ok (.return_, 1) := by decide +kernel
theorem dX0_copyFrom_0 : decode cX0_copyFrom 0 = .ok (.aload_n 0, 1) := by decide +kernel
theorem dX0_copyFrom_1 : decode cX0_copyFrom 1 = .ok (.aload_n 1, 1) := by decide +kernel
theorem dX0_copyFrom_2 : decode cX0_copyFrom 2 = .ok (.getfield 9, 3) := by decide +kernel
theorem dX0_copyFrom_5 : decode cX0_copyFrom 5 = .ok (.putfield 9, 3) := by decide +kernel
theorem dX0_copyFrom_8 : decode cX0_copyFrom 8 = .ok (.aload_n 0, 1) := by decide +kernel
theorem dX0_copyFrom_9 : decode cX0_copyFrom 9 = .ok (.aload_n 1, 1) := by decide +kernel
theorem dX0_copyFrom_10 : decode cX0_copyFrom 10 = .ok (.getfield 15, 3) := by decide +kernel
theorem dX0_copyFrom_13 : decode cX0_copyFrom 13 = .ok (.putfield 15, 3) := by decide +kernel
theorem dX0_copyFrom_16 : decode cX0_copyFrom 16 = .ok (.aload_n 0, 1) := by decide +kernel
theorem dX0_copyFrom_17 : decode cX0_copyFrom 17 = .ok (.aload_n 1, 1) := by decide +kernel
theorem dX0_copyFrom_18 : decode cX0_copyFrom 18 = .ok (.getfield 18, 3) := by decide +kernel
theorem dX0_copyFrom_21 : decode cX0_copyFrom 21 = .ok (.putfield 18, 3) := by decide +kernel
theorem dX0_copyFrom_24 : decode cX0_copyFrom 24 = .ok (.aload_n 0, 1) := by decide +kernel
theorem dX0_copyFrom_25 : decode cX0_copyFrom 25 = .ok (.aload_n 1, 1) := by decide +kernel
theorem dX0_copyFrom_26 : decode cX0_copyFrom 26 = .ok (.getfield 21, 3) := by decide +kernel
theorem dX0_copyFrom_29 : decode cX0_copyFrom 29 = .ok (.putfield 21, 3) := by decide +kernel
theorem dX0_copyFrom_32 : decode cX0_copyFrom 32 = .ok (.aload_n 0, 1) := by decide +kernel
theorem dX0_copyFrom_33 : decode cX0_copyFrom 33 = .ok (.aload_n 1, 1) := by decide +kernel
theorem dX0_copyFrom_34 : decode cX0_copyFrom 34 = .ok (.invokevirtual 31, 3) := by decide +kernel
theorem dX0_copyFrom_37 : decode cX0_copyFrom 37 = .ok (.return_, 1) := by decide +kernel
theorem dX0_copyTrays_0 : decode cX0_copyTrays 0 = .ok (.aload_n 0, 1) := by decide +kernel
theorem dX0_copyTrays_1 : decode cX0_copyTrays 1 = .ok (.aload_n 1, 1) := by decide +kernel
theorem dX0_copyTrays_2 : decode cX0_copyTrays 2 = .ok (.getfield 35, 3) := by decide +kernel
theorem dX0_copyTrays_5 : decode cX0_copyTrays 5 = .ok (.putfield 35, 3) := by decide +kernel
theorem dX0_copyTrays_8 : decode cX0_copyTrays 8 = .ok (.iconst 0, 1) := by decide +kernel
theorem dX0_copyTrays_9 : decode cX0_copyTrays 9 = .ok (.istore_n 2, 1) := by decide +kernel
theorem dX0_copyTrays_10 : decode cX0_copyTrays 10 = .ok (.iload_n 2, 1) := by decide +kernel
theorem dX0_copyTrays_11 : decode cX0_copyTrays 11 = .ok (.aload_n 0, 1) := by decide +kernel
theorem dX0_copyTrays_12 : decode cX0_copyTrays 12 = .ok (.getfield 35, 3) := by decide +kernel
theorem dX0_copyTrays_15 : decode cX0_copyTrays 15 = .ok (.if_icmp .ge 24, 3) := by decide +kernel
theorem dX0_copyTrays_18 : decode cX0_copyTrays 18 = .ok (.aload_n 0, 1) := by decide +kernel
theorem dX0_copyTrays_19 : decode cX0_copyTrays 19 = .ok (.getfield 26, 3) := by decide +kernel
theorem dX0_copyTrays_22 : decode cX0_copyTrays 22 = .ok (.iload_n 2, 1) := by decide +kernel
theorem dX0_copyTrays_23 : decode cX0_copyTrays 23 = .ok (.aaload, 1) := by decide +kernel
theorem dX0_copyTrays_24 : decode cX0_copyTrays 24 = .ok (.aload_n 1, 1) := by decide +kernel
theorem dX0_copyTrays_25 : decode cX0_copyTrays 25 = .ok (.getfield 26, 3) := by decide +kernel
theorem dX0_copyTrays_28 : decode cX0_copyTrays 28 = .ok (.iload_n 2, 1) := by decide +kernel
theorem dX0_copyTrays_29 : decode cX0_copyTrays 29 = .ok (.aaload, 1) := by decide +kernel
theorem dX0_copyTrays_30 : decode cX0_copyTrays 30 = .ok (.invokevirtual 38, 3) := by decide +kernel
theorem dX0_copyTrays_33 : decode cX0_copyTrays 33 = .ok (.iinc 2 1, 3) := by decide +kernel
theorem dX0_copyTrays_36 : decode cX0_copyTrays 36 = .ok (.goto (-26), 3) := by decide +kernel
theorem dX0_copyTrays_39 : decode cX0_copyTrays 39 = .ok (.return_, 1) := by decide +kernel
theorem dX0_clear_0 : decode cX0_clear 0 = .ok (.iconst 0, 1) := by decide +kernel
theorem dX0_clear_1 : decode cX0_clear 1 = .ok (.istore_n 1, 1) := by decide +kernel
theorem dX0_clear_2 : decode cX0_clear 2 = .ok (.iload_n 1, 1) := by decide +kernel
theorem dX0_clear_3 : decode cX0_clear 3 = .ok (.aload_n 0, 1) := by decide +kernel
theorem dX0_clear_4 : decode cX0_clear 4 = .ok (.getfield 35, 3) := by decide +kernel
theorem dX0_clear_7 : decode cX0_clear 7 = .ok (.if_icmp .ge 18, 3) := by decide +kernel
theorem dX0_clear_10 : decode cX0_clear 10 = .ok (.aload_n 0, 1) := by decide +kernel
theorem dX0_clear_11 : decode cX0_clear 11 = .ok (.getfield 26, 3) := by decide +kernel
theorem dX0_clear_14 : decode cX0_clear 14 = .ok (.iload_n 1, 1) := by decide +kernel
theorem dX0_clear_15 : decode cX0_clear 15 = .ok (.aaload, 1) := by decide +kernel
theorem dX0_clear_16 : decode cX0_clear 16 = .ok (.invokevirtual 42, 3) := by decide +kernel
theorem dX0_clear_19 : decode cX0_clear 19 = .ok (.iinc 1 1, 3) := by decide +kernel
theorem dX0_clear_22 : decode cX0_clear 22 = .ok (.goto (-20), 3) := by decide +kernel
theorem dX0_clear_25 : decode cX0_clear 25 = .ok (.return_, 1) := by decide +kernel
theorem dX0_remove_0 : decode cX0_remove 0 = .ok (.iload_n 1, 1) := by decide +kernel
theorem dX0_remove_1 : decode cX0_remove 1 = .ok (.istore_n 2, 1) := by decide +kernel
theorem dX0_remove_2 : decode cX0_remove 2 = .ok (.iload_n 2, 1) := by decide +kernel
theorem dX0_remove_3 : decode cX0_remove 3 = .ok (.aload_n 0, 1) := by decide +kernel
theorem dX0_remove_4 : decode cX0_remove 4 = .ok (.getfield 35, 3) := by decide +kernel
theorem dX0_remove_7 : decode cX0_remove 7 = .ok (.iconst 1, 1) := by decide +kernel
theorem dX0_remove_8 : decode cX0_remove 8 = .ok (.isub, 1) := by decide +kernel
theorem dX0_remove_9 : decode cX0_remove 9 = .ok (.if_icmp .ge 26, 3) := by decide +kernel
theorem dX0_remove_12 : decode cX0_remove 12 = .ok (.aload_n 0, 1) := by decide +kernel
theorem dX0_remove_13 : decode cX0_remove 13 = .ok (.getfield 26, 3) := by decide +kernel
theorem dX0_remove_16 : decode cX0_remove 16 = .ok (.iload_n 2, 1) := by decide +kernel
theorem dX0_remove_17 : decode cX0_remove 17 = .ok (.aaload, 1) := by decide +kernel
theorem dX0_remove_18 : decode cX0_remove 18 = .ok (.aload_n 0, 1) := by decide +kernel
theorem dX0_remove_19 : decode cX0_remove 19 = .ok (.getfield 26, 3) := by decide +kernel
theorem dX0_remove_22 : decode cX0_remove 22 = .ok (.iload_n 2, 1) := by decide +kernel
theorem dX0_remove_23 : decode cX0_remove 23 = .ok (.iconst 1, 1) := by decide +kernel
theorem dX0_remove_24 : decode cX0_remove 24 = .ok (.iadd, 1) := by decide +kernel
theorem dX0_remove_25 : decode cX0_remove 25 = .ok (.aaload, 1) := by decide +kernel
theorem dX0_remove_26 : decode cX0_remove 26 = .ok (.invokevirtual 38, 3) := by decide +kernel
theorem dX0_remove_29 : decode cX0_remove 29 = .ok (.iinc 2 1, 3) := by decide +kernel
theorem dX0_remove_32 : decode cX0_remove 32 = .ok (.goto (-30), 3) := by decide +kernel
theorem dX0_remove_35 : decode cX0_remove 35 = .ok (.aload_n 0, 1) := by decide +kernel
theorem dX0_remove_36 : decode cX0_remove 36 = .ok (.dup, 1) := by decide +kernel
theorem dX0_remove_37 : decode cX0_remove 37 = .ok (.getfield 35, 3) := by decide +kernel
theorem dX0_remove_40 : decode cX0_remove 40 = .ok (.iconst 1, 1) := by decide +kernel
theorem dX0_remove_41 : decode cX0_remove 41 = .ok (.isub, 1) := by decide +kernel
theorem dX0_remove_42 : decode cX0_remove 42 = .ok (.putfield 35, 3) := by decide +kernel
theorem dX0_remove_45 : decode cX0_remove 45 = .ok (.return_, 1) := by decide +kernel
theorem dX0_has_0 : decode cX0_has 0 = .ok (.iload_n 1, 1) := by decide +kernel
theorem dX0_has_1 : decode cX0_has 1 = .ok (.ifCond .lt 15, 3) := by decide +kernel
theorem dX0_has_4 : decode cX0_has 4 = .ok (.iload_n 1, 1) := by decide +kernel
theorem dX0_has_5 : decode cX0_has 5 = .ok (.aload_n 0, 1) := by decide +kernel
theorem dX0_has_6 : decode cX0_has 6 = .ok (.getfield 35, 3) := by decide +kernel
theorem dX0_has_9 : decode cX0_has 9 = .ok (.if_icmp .ge 7, 3) := by decide +kernel
theorem dX0_has_12 : decode cX0_has 12 = .ok (.iconst 1, 1) := by decide +kernel
theorem dX0_has_13 : decode cX0_has 13 = .ok (.goto 4, 3) := by decide +kernel
theorem dX0_has_16 : decode cX0_has 16 = .ok (.iconst 0, 1) := by decide +kernel
theorem dX0_has_17 : decode cX0_has 17 = .ok (.ireturn, 1) := by decide +kernel
theorem dX0_encloses_0 : decode cX0_encloses 0 = .ok (.iload_n 2, 1) := by decide +kernel
theorem dX0_encloses_1 : decode cX0_encloses 1 = .ok (.ifCond .lt 41, 3) := by decide +kernel
theorem dX0_encloses_4 : decode cX0_encloses 4 = .ok (.iload_n 2, 1) := by decide +kernel
theorem dX0_encloses_5 : decode cX0_encloses 5 = .ok (.aload_n 0, 1) := by decide +kernel
theorem dX0_encloses_6 : decode cX0_encloses 6 = .ok (.getfield 9, 3) := by decide +kernel
theorem dX0_encloses_9 : decode cX0_encloses 9 = .ok (.aload_n 1, 1) := by decide +kernel
theorem dX0_encloses_10 : decode cX0_encloses 10 = .ok (.iload 4, 2) := by decide +kernel
theorem dX0_encloses_12 : decode cX0_encloses 12 = .ok (.invokevirtual 45, 3) := by decide +kernel
theorem dX0_encloses_15 : decode cX0_encloses 15 = .ok (.isub, 1) := by decide +kernel
theorem dX0_encloses_16 : decode cX0_encloses 16 = .ok (.if_icmp .gt 26, 3) := by decide +kernel
theorem dX0_encloses_19 : decode cX0_encloses 19 = .ok (.iload_n 3, 1) := by decide +kernel
theorem dX0_encloses_20 : decode cX0_encloses 20 = .ok (.ifCond .lt 22, 3) := by decide +kernel
theorem dX0_encloses_23 : decode cX0_encloses 23 = .ok (.iload_n 3, 1) := by decide +kernel
theorem dX0_encloses_24 : decode cX0_encloses 24 = .ok (.aload_n 0, 1) := by decide +kernel
theorem dX0_encloses_25 : decode cX0_encloses 25 = .ok (.getfield 15, 3) := by decide +kernel
theorem dX0_encloses_28 : decode cX0_encloses 28 = .ok (.aload_n 1, 1) := by decide +kernel
theorem dX0_encloses_29 : decode cX0_encloses 29 = .ok (.iload 4, 2) := by decide +kernel
theorem dX0_encloses_31 : decode cX0_encloses 31 = .ok (.invokevirtual 49, 3) := by decide +kernel
theorem dX0_encloses_34 : decode cX0_encloses 34 = .ok (.isub, 1) := by decide +kernel
theorem dX0_encloses_35 : decode cX0_encloses 35 = .ok (.if_icmp .gt 7, 3) := by decide +kernel
theorem dX0_encloses_38 : decode cX0_encloses 38 = .ok (.iconst 1, 1) := by decide +kernel
theorem dX0_encloses_39 : decode cX0_encloses 39 = .ok (.goto 4, 3) := by decide +kernel
theorem dX0_encloses_42 : decode cX0_encloses 42 = .ok (.iconst 0, 1) := by decide +kernel
theorem dX0_encloses_43 : decode cX0_encloses 43 = .ok (.ireturn, 1) := by decide +kernel
theorem dX0_highestFloor_0 : decode cX0_highestFloor 0 = .ok (.aload_n 0, 1) := by decide +kernel
theorem dX0_highestFloor_1 : decode cX0_highestFloor 1 = .ok (.getfield 18, 3) := by decide +kernel
theorem dX0_highestFloor_4 : decode cX0_highestFloor 4 = .ok (.aload_n 1, 1) := by decide +kernel
theorem dX0_highestFloor_5 : decode cX0_highestFloor 5 = .ok (.invokevirtual 52, 3) := by decide +kernel
theorem dX0_highestFloor_8 : decode cX0_highestFloor 8 = .ok (.isub, 1) := by decide +kernel
theorem dX0_highestFloor_9 : decode cX0_highestFloor 9 = .ok (.ireturn, 1) := by decide +kernel
theorem dX0_inside_0 : decode cX0_inside 0 = .ok (.iconst 0, 1) := by decide +kernel
theorem dX0_inside_1 : decode cX0_inside 1 = .ok (.istore_n 1, 1) := by decide +kernel
theorem dX0_inside_2 : decode cX0_inside 2 = .ok (.iconst 0, 1) := by decide +kernel
theorem dX0_inside_3 : decode cX0_inside 3 = .ok (.istore_n 2, 1) := by decide +kernel
theorem dX0_inside_4 : decode cX0_inside 4 = .ok (.iload_n 2, 1) := by decide +kernel
theorem dX0_inside_5 : decode cX0_inside 5 = .ok (.aload_n 0, 1) := by decide +kernel
theorem dX0_inside_6 : decode cX0_inside 6 = .ok (.getfield 35, 3) := by decide +kernel
theorem dX0_inside_9 : decode cX0_inside 9 = .ok (.if_icmp .ge 27, 3) := by decide +kernel
theorem dX0_inside_12 : decode cX0_inside 12 = .ok (.aload_n 0, 1) := by decide +kernel
theorem dX0_inside_13 : decode cX0_inside 13 = .ok (.getfield 26, 3) := by decide +kernel
theorem dX0_inside_16 : decode cX0_inside 16 = .ok (.iload_n 2, 1) := by decide +kernel
theorem dX0_inside_17 : decode cX0_inside 17 = .ok (.aaload, 1) := by decide +kernel
theorem dX0_inside_18 : decode cX0_inside 18 = .ok (.getfield 56, 3) := by decide +kernel
theorem dX0_inside_21 : decode cX0_inside 21 = .ok (.ifCond .eq 9, 3) := by decide +kernel
theorem dX0_inside_24 : decode cX0_inside 24 = .ok (.iload_n 1, 1) := by decide +kernel
theorem dX0_inside_25 : decode cX0_inside 25 = .ok (.iconst 1, 1) := by decide +kernel
theorem dX0_inside_26 : decode cX0_inside 26 = .ok (.iload_n 2, 1) := by decide +kernel
theorem dX0_inside_27 : decode cX0_inside 27 = .ok (.ishl, 1) := by decide +kernel
theorem dX0_inside_28 : decode cX0_inside 28 = .ok (.ior, 1) := by decide +kernel
theorem dX0_inside_29 : decode cX0_inside 29 = .ok (.istore_n 1, 1) := by decide +kernel
theorem dX0_inside_30 : decode cX0_inside 30 = .ok (.iinc 2 1, 3) := by decide +kernel
theorem dX0_inside_33 : decode cX0_inside 33 = .ok (.goto (-29), 3) := by decide +kernel
theorem dX0_inside_36 : decode cX0_inside 36 = .ok (.iload_n 1, 1) := by decide +kernel
theorem dX0_inside_37 : decode cX0_inside 37 = .ok (.ireturn, 1) := by decide +kernel
theorem dX0_uppermost_0 : decode cX0_uppermost 0 = .ok (.bipush (-9), 2) := by decide +kernel
theorem dX0_uppermost_2 : decode cX0_uppermost 2 = .ok (.istore_n 3, 1) := by decide +kernel
theorem dX0_uppermost_3 : decode cX0_uppermost 3 = .ok (.iconst 0, 1) := by decide +kernel
theorem dX0_uppermost_4 : decode cX0_uppermost 4 = .ok (.istore 4, 2) := by decide +kernel
theorem dX0_uppermost_6 : decode cX0_uppermost 6 = .ok (.iconst 0, 1) := by decide +kernel
theorem dX0_uppermost_7 : decode cX0_uppermost 7 = .ok (.istore 5, 2) := by decide +kernel
theorem dX0_uppermost_9 : decode cX0_uppermost 9 = .ok (.iload 5, 2) := by decide +kernel
theorem dX0_uppermost_11 : decode cX0_uppermost 11 = .ok (.aload_n 0, 1) := by decide +kernel
theorem dX0_uppermost_12 : decode cX0_uppermost 12 = .ok (.getfield 35, 3) := by decide +kernel
theorem dX0_uppermost_15 : decode cX0_uppermost 15 = .ok (.if_icmp .ge 54, 3) := by decide +kernel
theorem dX0_uppermost_18 : decode cX0_uppermost 18 = .ok (.aload_n 0, 1) := by decide +kernel
theorem dX0_uppermost_19 : decode cX0_uppermost 19 = .ok (.getfield 26, 3) := by decide +kernel
theorem dX0_uppermost_22 : decode cX0_uppermost 22 = .ok (.iload 5, 2) := by decide +kernel
theorem dX0_uppermost_24 : decode cX0_uppermost 24 = .ok (.aaload, 1) := by decide +kernel
theorem dX0_uppermost_25 : decode cX0_uppermost 25 = .ok (.iload_n 1, 1) := by decide +kernel
theorem dX0_uppermost_26 : decode cX0_uppermost 26 = .ok (.iload_n 2, 1) := by decide +kernel
theorem dX0_uppermost_27 : decode cX0_uppermost 27 = .ok (.invokevirtual 60, 3) := by decide +kernel
theorem dX0_uppermost_30 : decode cX0_uppermost 30 = .ok (.ifCond .eq 33, 3) := by decide +kernel
theorem dX0_uppermost_33 : decode cX0_uppermost 33 = .ok (.aload_n 0, 1) := by decide +kernel
theorem dX0_uppermost_34 : decode cX0_uppermost 34 = .ok (.getfield 26, 3) := by decide +kernel
theorem dX0_uppermost_37 : decode cX0_uppermost 37 = .ok (.iload 5, 2) := by decide +kernel
theorem dX0_uppermost_39 : decode cX0_uppermost 39 = .ok (.aaload, 1) := by decide +kernel
theorem dX0_uppermost_40 : decode cX0_uppermost 40 = .ok (.getfield 64, 3) := by decide +kernel
theorem dX0_uppermost_43 : decode cX0_uppermost 43 = .ok (.iload 4, 2) := by decide +kernel
theorem dX0_uppermost_45 : decode cX0_uppermost 45 = .ok (.if_icmp .le 18, 3) := by decide +kernel
theorem dX0_uppermost_48 : decode cX0_uppermost 48 = .ok (.iload 5, 2) := by decide +kernel
theorem dX0_uppermost_50 : decode cX0_uppermost 50 = .ok (.istore_n 3, 1) := by decide +kernel
theorem dX0_uppermost_51 : decode cX0_uppermost 51 = .ok (.aload_n 0, 1) := by decide +kernel
theorem dX0_uppermost_52 : decode cX0_uppermost 52 = .ok (.getfield 26, 3) := by decide +kernel
theorem dX0_uppermost_55 : decode cX0_uppermost 55 = .ok (.iload 5, 2) := by decide +kernel
theorem dX0_uppermost_57 : decode cX0_uppermost 57 = .ok (.aaload, 1) := by decide +kernel
theorem dX0_uppermost_58 : decode cX0_uppermost 58 = .ok (.getfield 64, 3) := by decide +kernel
theorem dX0_uppermost_61 : decode cX0_uppermost 61 = .ok (.istore 4, 2) := by decide +kernel
theorem dX0_uppermost_63 : decode cX0_uppermost 63 = .ok (.iinc 5 1, 3) := by decide +kernel
theorem dX0_uppermost_66 : decode cX0_uppermost 66 = .ok (.goto (-57), 3) := by decide +kernel
theorem dX0_uppermost_69 : decode cX0_uppermost 69 = .ok (.iload_n 3, 1) := by decide +kernel
theorem dX0_uppermost_70 : decode cX0_uppermost 70 = .ok (.ireturn, 1) := by decide +kernel
theorem dX0_isFree_0 : decode cX0_isFree 0 = .ok (.aload_n 0, 1) := by decide +kernel
theorem dX0_isFree_1 : decode cX0_isFree 1 = .ok (.iload_n 1, 1) := by decide +kernel
theorem dX0_isFree_2 : decode cX0_isFree 2 = .ok (.invokevirtual 67, 3) := by decide +kernel
theorem dX0_isFree_5 : decode cX0_isFree 5 = .ok (.ifCond .ne 7, 3) := by decide +kernel
theorem dX0_isFree_8 : decode cX0_isFree 8 = .ok (.iconst 1, 1) := by decide +kernel
theorem dX0_isFree_9 : decode cX0_isFree 9 = .ok (.goto 4, 3) := by decide +kernel
theorem dX0_isFree_12 : decode cX0_isFree 12 = .ok (.iconst 0, 1) := by decide +kernel
theorem dX0_isFree_13 : decode cX0_isFree 13 = .ok (.ireturn, 1) := by decide +kernel
theorem dX0_lyingOn_0 : decode cX0_lyingOn 0 = .ok (.iconst 0, 1) := by decide +kernel
theorem dX0_lyingOn_1 : decode cX0_lyingOn 1 = .ok (.istore_n 2, 1) := by decide +kernel
theorem dX0_lyingOn_2 : decode cX0_lyingOn 2 = .ok (.iconst 0, 1) := by decide +kernel
theorem dX0_lyingOn_3 : decode cX0_lyingOn 3 = .ok (.istore_n 3, 1) := by decide +kernel
theorem dX0_lyingOn_4 : decode cX0_lyingOn 4 = .ok (.iload_n 3, 1) := by decide +kernel
theorem dX0_lyingOn_5 : decode cX0_lyingOn 5 = .ok (.aload_n 0, 1) := by decide +kernel
theorem dX0_lyingOn_6 : decode cX0_lyingOn 6 = .ok (.getfield 35, 3) := by decide +kernel
theorem dX0_lyingOn_9 : decode cX0_lyingOn 9 = .ok (.if_icmp .ge 33, 3) := by decide +kernel
theorem dX0_lyingOn_12 : decode cX0_lyingOn 12 = .ok (.aload_n 0, 1) := by decide +kernel
theorem dX0_lyingOn_13 : decode cX0_lyingOn 13 = .ok (.getfield 26, 3) := by decide +kernel
theorem dX0_lyingOn_16 : decode cX0_lyingOn 16 = .ok (.iload_n 3, 1) := by decide +kernel
theorem dX0_lyingOn_17 : decode cX0_lyingOn 17 = .ok (.aaload, 1) := by decide +kernel
theorem dX0_lyingOn_18 : decode cX0_lyingOn 18 = .ok (.aload_n 0, 1) := by decide +kernel
theorem dX0_lyingOn_19 : decode cX0_lyingOn 19 = .ok (.getfield 26, 3) := by decide +kernel
theorem dX0_lyingOn_22 : decode cX0_lyingOn 22 = .ok (.iload_n 1, 1) := by decide +kernel
theorem dX0_lyingOn_23 : decode cX0_lyingOn 23 = .ok (.aaload, 1) := by decide +kernel
theorem dX0_lyingOn_24 : decode cX0_lyingOn 24 = .ok (.invokevirtual 71, 3) := by decide +kernel
theorem dX0_lyingOn_27 : decode cX0_lyingOn 27 = .ok (.ifCond .eq 9, 3) := by decide +kernel
theorem dX0_lyingOn_30 : decode cX0_lyingOn 30 = .ok (.iload_n 2, 1) := by decide +kernel
theorem dX0_lyingOn_31 : decode cX0_lyingOn 31 = .ok (.iconst 1, 1) := by decide +kernel
theorem dX0_lyingOn_32 : decode cX0_lyingOn 32 = .ok (.iload_n 3, 1) := by decide +kernel
theorem dX0_lyingOn_33 : decode cX0_lyingOn 33 = .ok (.ishl, 1) := by decide +kernel
theorem dX0_lyingOn_34 : decode cX0_lyingOn 34 = .ok (.ior, 1) := by decide +kernel
theorem dX0_lyingOn_35 : decode cX0_lyingOn 35 = .ok (.istore_n 2, 1) := by decide +kernel
theorem dX0_lyingOn_36 : decode cX0_lyingOn 36 = .ok (.iinc 3 1, 3) := by decide +kernel
theorem dX0_lyingOn_39 : decode cX0_lyingOn 39 = .ok (.goto (-35), 3) := by decide +kernel
theorem dX0_lyingOn_42 : decode cX0_lyingOn 42 = .ok (.iload_n 2, 1) := by decide +kernel
theorem dX0_lyingOn_43 : decode cX0_lyingOn 43 = .ok (.ireturn, 1) := by decide +kernel
theorem dX0_above_0 : decode cX0_above 0 = .ok (.iconst 0, 1) := by decide +kernel
theorem dX0_above_1 : decode cX0_above 1 = .ok (.istore_n 3, 1) := by decide +kernel
theorem dX0_above_2 : decode cX0_above 2 = .ok (.aload_n 0, 1) := by decide +kernel
theorem dX0_above_3 : decode cX0_above 3 = .ok (.iload_n 1, 1) := by decide +kernel
theorem dX0_above_4 : decode cX0_above 4 = .ok (.invokevirtual 67, 3) := by decide +kernel
theorem dX0_above_7 : decode cX0_above 7 = .ok (.iload_n 2, 1) := by decide +kernel
theorem dX0_above_8 : decode cX0_above 8 = .ok (.iand, 1) := by decide +kernel
theorem dX0_above_9 : decode cX0_above 9 = .ok (.istore 4, 2) := by decide +kernel
theorem dX0_above_11 : decode cX0_above 11 = .ok (.iconst 0, 1) := by decide +kernel
theorem dX0_above_12 : decode cX0_above 12 = .ok (.istore 5, 2) := by decide +kernel
theorem dX0_above_14 : decode cX0_above 14 = .ok (.iload 5, 2) := by decide +kernel
theorem dX0_above_16 : decode cX0_above 16 = .ok (.bipush 12, 2) := by decide +kernel
theorem dX0_above_18 : decode cX0_above 18 = .ok (.if_icmp .ge 67, 3) := by decide +kernel
theorem dX0_above_21 : decode cX0_above 21 = .ok (.iload 4, 2) := by decide +kernel
theorem dX0_above_23 : decode cX0_above 23 = .ok (.iload_n 3, 1) := by decide +kernel
theorem dX0_above_24 : decode cX0_above 24 = .ok (.if_icmp .eq 61, 3) := by decide +kernel
theorem dX0_above_27 : decode cX0_above 27 = .ok (.iload 4, 2) := by decide +kernel
theorem dX0_above_29 : decode cX0_above 29 = .ok (.iload_n 3, 1) := by decide +kernel
theorem dX0_above_30 : decode cX0_above 30 = .ok (.iconst (-1), 1) := by decide +kernel
theorem dX0_above_31 : decode cX0_above 31 = .ok (.ixor, 1) := by decide +kernel
theorem dX0_above_32 : decode cX0_above 32 = .ok (.iand, 1) := by decide +kernel
theorem dX0_above_33 : decode cX0_above 33 = .ok (.istore 6, 2) := by decide +kernel
theorem dX0_above_35 : decode cX0_above 35 = .ok (.iload 4, 2) := by decide +kernel
theorem dX0_above_37 : decode cX0_above 37 = .ok (.istore_n 3, 1) := by decide +kernel
theorem dX0_above_38 : decode cX0_above 38 = .ok (.iconst 0, 1) := by decide +kernel
theorem dX0_above_39 : decode cX0_above 39 = .ok (.istore 7, 2) := by decide +kernel
theorem dX0_above_41 : decode cX0_above 41 = .ok (.iload 7, 2) := by decide +kernel
theorem dX0_above_43 : decode cX0_above 43 = .ok (.aload_n 0, 1) := by decide +kernel
theorem dX0_above_44 : decode cX0_above 44 = .ok (.getfield 35, 3) := by decide +kernel
theorem dX0_above_47 : decode cX0_above 47 = .ok (.if_icmp .ge 32, 3) := by decide +kernel
theorem dX0_above_50 : decode cX0_above 50 = .ok (.iload 6, 2) := by decide +kernel
theorem dX0_above_52 : decode cX0_above 52 = .ok (.iconst 1, 1) := by decide +kernel
theorem dX0_above_53 : decode cX0_above 53 = .ok (.iload 7, 2) := by decide +kernel
theorem dX0_above_55 : decode cX0_above 55 = .ok (.ishl, 1) := by decide +kernel
theorem dX0_above_56 : decode cX0_above 56 = .ok (.iand, 1) := by decide +kernel
theorem dX0_above_57 : decode cX0_above 57 = .ok (.ifCond .eq 16, 3) := by decide +kernel
theorem dX0_above_60 : decode cX0_above 60 = .ok (.iload 4, 2) := by decide +kernel
theorem dX0_above_62 : decode cX0_above 62 = .ok (.aload_n 0, 1) := by decide +kernel
theorem dX0_above_63 : decode cX0_above 63 = .ok (.iload 7, 2) := by decide +kernel
theorem dX0_above_65 : decode cX0_above 65 = .ok (.invokevirtual 67, 3) := by decide +kernel
theorem dX0_above_68 : decode cX0_above 68 = .ok (.iload_n 2, 1) := by decide +kernel
theorem dX0_above_69 : decode cX0_above 69 = .ok (.iand, 1) := by decide +kernel
theorem dX0_above_70 : decode cX0_above 70 = .ok (.ior, 1) := by decide +kernel
theorem dX0_above_71 : decode cX0_above 71 = .ok (.istore 4, 2) := by decide +kernel
theorem dX0_above_73 : decode cX0_above 73 = .ok (.iinc 7 1, 3) := by decide +kernel
theorem dX0_above_76 : decode cX0_above 76 = .ok (.goto (-35), 3) := by decide +kernel
theorem dX0_above_79 : decode cX0_above 79 = .ok (.iinc 5 1, 3) := by decide +kernel
theorem dX0_above_82 : decode cX0_above 82 = .ok (.goto (-68), 3) := by decide +kernel
theorem dX0_above_85 : decode cX0_above 85 = .ok (.iload 4, 2) := by decide +kernel
theorem dX0_above_87 : decode cX0_above 87 = .ok (.ireturn, 1) := by decide +kernel
theorem dX0_faultOf_0 : decode cX0_faultOf 0 = .ok (.aload_n 0, 1) := by decide +kernel
theorem dX0_faultOf_1 : decode cX0_faultOf 1 = .ok (.aload_n 0, 1) := by decide +kernel
theorem dX0_faultOf_2 : decode cX0_faultOf 2 = .ok (.iload_n 1, 1) := by decide +kernel
theorem dX0_faultOf_3 : decode cX0_faultOf 3 = .ok (.aload_n 0, 1) := by decide +kernel
theorem dX0_faultOf_4 : decode cX0_faultOf 4 = .ok (.invokevirtual 75, 3) := by decide +kernel
theorem dX0_faultOf_7 : decode cX0_faultOf 7 = .ok (.invokevirtual 77, 3) := by decide +kernel
theorem dX0_faultOf_10 : decode cX0_faultOf 10 = .ok (.aload_n 0, 1) := by decide +kernel
theorem dX0_faultOf_11 : decode cX0_faultOf 11 = .ok (.getfield 26, 3) := by decide +kernel
theorem dX0_faultOf_14 : decode cX0_faultOf 14 = .ok (.iload_n 1, 1) := by decide +kernel
theorem dX0_faultOf_15 : decode cX0_faultOf 15 = .ok (.aaload, 1) := by decide +kernel
theorem dX0_faultOf_16 : decode cX0_faultOf 16 = .ok (.getfield 81, 3) := by decide +kernel
theorem dX0_faultOf_19 : decode cX0_faultOf 19 = .ok (.invokevirtual 84, 3) := by decide +kernel
theorem dX0_faultOf_22 : decode cX0_faultOf 22 = .ok (.ireturn, 1) := by decide +kernel
theorem dX0_faults_0 : decode cX0_faults 0 = .ok (.iconst 0, 1) := by decide +kernel
theorem dX0_faults_1 : decode cX0_faults 1 = .ok (.istore_n 1, 1) := by decide +kernel
theorem dX0_faults_2 : decode cX0_faults 2 = .ok (.aload_n 0, 1) := by decide +kernel
theorem dX0_faults_3 : decode cX0_faults 3 = .ok (.invokevirtual 75, 3) := by decide +kernel
theorem dX0_faults_6 : decode cX0_faults 6 = .ok (.istore_n 2, 1) := by decide +kernel
theorem dX0_faults_7 : decode cX0_faults 7 = .ok (.iconst 0, 1) := by decide +kernel
theorem dX0_faults_8 : decode cX0_faults 8 = .ok (.istore_n 3, 1) := by decide +kernel
theorem dX0_faults_9 : decode cX0_faults 9 = .ok (.iload_n 3, 1) := by decide +kernel
theorem dX0_faults_10 : decode cX0_faults 10 = .ok (.aload_n 0, 1) := by decide +kernel
theorem dX0_faults_11 : decode cX0_faults 11 = .ok (.getfield 35, 3) := by decide +kernel
theorem dX0_faults_14 : decode cX0_faults 14 = .ok (.if_icmp .ge 31, 3) := by decide +kernel
theorem dX0_faults_17 : decode cX0_faults 17 = .ok (.iload_n 1, 1) := by decide +kernel
theorem dX0_faults_18 : decode cX0_faults 18 = .ok (.aload_n 0, 1) := by decide +kernel
theorem dX0_faults_19 : decode cX0_faults 19 = .ok (.aload_n 0, 1) := by decide +kernel
theorem dX0_faults_20 : decode cX0_faults 20 = .ok (.iload_n 3, 1) := by decide +kernel
theorem dX0_faults_21 : decode cX0_faults 21 = .ok (.iload_n 2, 1) := by decide +kernel
theorem dX0_faults_22 : decode cX0_faults 22 = .ok (.invokevirtual 77, 3) := by decide +kernel
theorem dX0_faults_25 : decode cX0_faults 25 = .ok (.aload_n 0, 1) := by decide +kernel
theorem dX0_faults_26 : decode cX0_faults 26 = .ok (.getfield 26, 3) := by decide +kernel
theorem dX0_faults_29 : decode cX0_faults 29 = .ok (.iload_n 3, 1) := by decide +kernel
theorem dX0_faults_30 : decode cX0_faults 30 = .ok (.aaload, 1) := by decide +kernel
theorem dX0_faults_31 : decode cX0_faults 31 = .ok (.getfield 81, 3) := by decide +kernel
theorem dX0_faults_34 : decode cX0_faults 34 = .ok (.invokevirtual 84, 3) := by decide +kernel
theorem dX0_faults_37 : decode cX0_faults 37 = .ok (.iadd, 1) := by decide +kernel
theorem dX0_faults_38 : decode cX0_faults 38 = .ok (.istore_n 1, 1) := by decide +kernel
theorem dX0_faults_39 : decode cX0_faults 39 = .ok (.iinc 3 1, 3) := by decide +kernel
theorem dX0_faults_42 : decode cX0_faults 42 = .ok (.goto (-33), 3) := by decide +kernel
theorem dX0_faults_45 : decode cX0_faults 45 = .ok (.iload_n 1, 1) := by decide +kernel
theorem dX0_faults_46 : decode cX0_faults 46 = .ok (.ireturn, 1) := by decide +kernel
theorem dX0_lateOnes_0 : decode cX0_lateOnes 0 = .ok (.iconst 0, 1) := by decide +kernel
theorem dX0_lateOnes_1 : decode cX0_lateOnes 1 = .ok (.istore_n 3, 1) := by decide +kernel
theorem dX0_lateOnes_2 : decode cX0_lateOnes 2 = .ok (.iconst 0, 1) := by decide +kernel
theorem dX0_lateOnes_3 : decode cX0_lateOnes 3 = .ok (.istore 4, 2) := by decide +kernel
theorem dX0_lateOnes_5 : decode cX0_lateOnes 5 = .ok (.iload 4, 2) := by decide +kernel
theorem dX0_lateOnes_7 : decode cX0_lateOnes 7 = .ok (.aload_n 0, 1) := by decide +kernel
theorem dX0_lateOnes_8 : decode cX0_lateOnes 8 = .ok (.getfield 35, 3) := by decide +kernel
theorem dX0_lateOnes_11 : decode cX0_lateOnes 11 = .ok (.if_icmp .ge 35, 3) := by decide +kernel
theorem dX0_lateOnes_14 : decode cX0_lateOnes 14 = .ok (.iload_n 1, 1) := by decide +kernel
theorem dX0_lateOnes_15 : decode cX0_lateOnes 15 = .ok (.iconst 1, 1) := by decide +kernel
theorem dX0_lateOnes_16 : decode cX0_lateOnes 16 = .ok (.iload 4, 2) := by decide +kernel
theorem dX0_lateOnes_18 : decode cX0_lateOnes 18 = .ok (.ishl, 1) := by decide +kernel
theorem dX0_lateOnes_19 : decode cX0_lateOnes 19 = .ok (.iand, 1) := by decide +kernel
theorem dX0_lateOnes_20 : decode cX0_lateOnes 20 = .ok (.ifCond .eq 20, 3) := by decide +kernel
theorem dX0_lateOnes_23 : decode cX0_lateOnes 23 = .ok (.aload_n 0, 1) := by decide +kernel
theorem dX0_lateOnes_24 : decode cX0_lateOnes 24 = .ok (.getfield 26, 3) := by decide +kernel
theorem dX0_lateOnes_27 : decode cX0_lateOnes 27 = .ok (.iload 4, 2) := by decide +kernel
theorem dX0_lateOnes_29 : decode cX0_lateOnes 29 = .ok (.aaload, 1) := by decide +kernel
theorem dX0_lateOnes_30 : decode cX0_lateOnes 30 = .ok (.getfield 81, 3) := by decide +kernel
theorem dX0_lateOnes_33 : decode cX0_lateOnes 33 = .ok (.iload_n 2, 1) := by decide +kernel
theorem dX0_lateOnes_34 : decode cX0_lateOnes 34 = .ok (.if_icmp .le 6, 3) := by decide +kernel
theorem dX0_lateOnes_37 : decode cX0_lateOnes 37 = .ok (.iinc 3 1, 3) := by decide +kernel
theorem dX0_lateOnes_40 : decode cX0_lateOnes 40 = .ok (.iinc 4 1, 3) := by decide +kernel
theorem dX0_lateOnes_43 : decode cX0_lateOnes 43 = .ok (.goto (-38), 3) := by decide +kernel
theorem dX0_lateOnes_46 : decode cX0_lateOnes 46 = .ok (.iload_n 3, 1) := by decide +kernel
theorem dX0_lateOnes_47 : decode cX0_lateOnes 47 = .ok (.ireturn, 1) := by decide +kernel
theorem dX0_lifts_0 : decode cX0_lifts 0 = .ok (.iconst 0, 1) := by decide +kernel
theorem dX0_lifts_1 : decode cX0_lifts 1 = .ok (.istore_n 1, 1) := by decide +kernel
theorem dX0_lifts_2 : decode cX0_lifts 2 = .ok (.aload_n 0, 1) := by decide +kernel
theorem dX0_lifts_3 : decode cX0_lifts 3 = .ok (.invokevirtual 75, 3) := by decide +kernel
theorem dX0_lifts_6 : decode cX0_lifts 6 = .ok (.istore_n 2, 1) := by decide +kernel
theorem dX0_lifts_7 : decode cX0_lifts 7 = .ok (.iconst 0, 1) := by decide +kernel
theorem dX0_lifts_8 : decode cX0_lifts 8 = .ok (.istore_n 3, 1) := by decide +kernel
theorem dX0_lifts_9 : decode cX0_lifts 9 = .ok (.iload_n 3, 1) := by decide +kernel
theorem dX0_lifts_10 : decode cX0_lifts 10 = .ok (.aload_n 0, 1) := by decide +kernel
theorem dX0_lifts_11 : decode cX0_lifts 11 = .ok (.getfield 35, 3) := by decide +kernel
theorem dX0_lifts_14 : decode cX0_lifts 14 = .ok (.if_icmp .ge 21, 3) := by decide +kernel
theorem dX0_lifts_17 : decode cX0_lifts 17 = .ok (.iload_n 1, 1) := by decide +kernel
theorem dX0_lifts_18 : decode cX0_lifts 18 = .ok (.aload_n 0, 1) := by decide +kernel
theorem dX0_lifts_19 : decode cX0_lifts 19 = .ok (.iload_n 3, 1) := by decide +kernel
theorem dX0_lifts_20 : decode cX0_lifts 20 = .ok (.iload_n 2, 1) := by decide +kernel
theorem dX0_lifts_21 : decode cX0_lifts 21 = .ok (.invokevirtual 77, 3) := by decide +kernel
theorem dX0_lifts_24 : decode cX0_lifts 24 = .ok (.invokestatic 87, 3) := by decide +kernel
theorem dX0_lifts_27 : decode cX0_lifts 27 = .ok (.iadd, 1) := by decide +kernel
theorem dX0_lifts_28 : decode cX0_lifts 28 = .ok (.istore_n 1, 1) := by decide +kernel
theorem dX0_lifts_29 : decode cX0_lifts 29 = .ok (.iinc 3 1, 3) := by decide +kernel
theorem dX0_lifts_32 : decode cX0_lifts 32 = .ok (.goto (-23), 3) := by decide +kernel
theorem dX0_lifts_35 : decode cX0_lifts 35 = .ok (.iload_n 1, 1) := by decide +kernel
theorem dX0_lifts_36 : decode cX0_lifts 36 = .ok (.ireturn, 1) := by decide +kernel
theorem dX0_freeTrays_0 : decode cX0_freeTrays 0 = .ok (.iconst 0, 1) := by decide +kernel
theorem dX0_freeTrays_1 : decode cX0_freeTrays 1 = .ok (.istore_n 1, 1) := by decide +kernel
theorem dX0_freeTrays_2 : decode cX0_freeTrays 2 = .ok (.iconst 0, 1) := by decide +kernel
theorem dX0_freeTrays_3 : decode cX0_freeTrays 3 = .ok (.istore_n 2, 1) := by decide +kernel
theorem dX0_freeTrays_4 : decode cX0_freeTrays 4 = .ok (.iload_n 2, 1) := by decide +kernel
theorem dX0_freeTrays_5 : decode cX0_freeTrays 5 = .ok (.aload_n 0, 1) := by decide +kernel
theorem dX0_freeTrays_6 : decode cX0_freeTrays 6 = .ok (.getfield 35, 3) := by decide +kernel
theorem dX0_freeTrays_9 : decode cX0_freeTrays 9 = .ok (.if_icmp .ge 32, 3) := by decide +kernel
theorem dX0_freeTrays_12 : decode cX0_freeTrays 12 = .ok (.aload_n 0, 1) := by decide +kernel
theorem dX0_freeTrays_13 : decode cX0_freeTrays 13 = .ok (.getfield 26, 3) := by decide +kernel
theorem dX0_freeTrays_16 : decode cX0_freeTrays 16 = .ok (.iload_n 2, 1) := by decide +kernel
theorem dX0_freeTrays_17 : decode cX0_freeTrays 17 = .ok (.aaload, 1) := by decide +kernel
theorem dX0_freeTrays_18 : decode cX0_freeTrays 18 = .ok (.getfield 56, 3) := by decide +kernel
theorem dX0_freeTrays_21 : decode cX0_freeTrays 21 = .ok (.ifCond .eq 14, 3) := by decide +kernel
theorem dX0_freeTrays_24 : decode cX0_freeTrays 24 = .ok (.aload_n 0, 1) := by decide +kernel
theorem dX0_freeTrays_25 : decode cX0_freeTrays 25 = .ok (.iload_n 2, 1) := by decide +kernel
theorem dX0_freeTrays_26 : decode cX0_freeTrays 26 = .ok (.invokevirtual 92, 3) := by decide +kernel
theorem dX0_freeTrays_29 : decode cX0_freeTrays 29 = .ok (.ifCond .eq 6, 3) := by decide +kernel
theorem dX0_freeTrays_32 : decode cX0_freeTrays 32 = .ok (.iinc 1 1, 3) := by decide +kernel
theorem dX0_freeTrays_35 : decode cX0_freeTrays 35 = .ok (.iinc 2 1, 3) := by decide +kernel
theorem dX0_freeTrays_38 : decode cX0_freeTrays 38 = .ok (.goto (-34), 3) := by decide +kernel
theorem dX0_freeTrays_41 : decode cX0_freeTrays 41 = .ok (.iload_n 1, 1) := by decide +kernel
theorem dX0_freeTrays_42 : decode cX0_freeTrays 42 = .ok (.ireturn, 1) := by decide +kernel
theorem dX0_filledHeight_0 : decode cX0_filledHeight 0 = .ok (.iconst 0, 1) := by decide +kernel
theorem dX0_filledHeight_1 : decode cX0_filledHeight 1 = .ok (.istore_n 1, 1) := by decide +kernel
theorem dX0_filledHeight_2 : decode cX0_filledHeight 2 = .ok (.iconst 0, 1) := by decide +kernel
theorem dX0_filledHeight_3 : decode cX0_filledHeight 3 = .ok (.istore_n 2, 1) := by decide +kernel
theorem dX0_filledHeight_4 : decode cX0_filledHeight 4 = .ok (.iload_n 2, 1) := by decide +kernel
theorem dX0_filledHeight_5 : decode cX0_filledHeight 5 = .ok (.aload_n 0, 1) := by decide +kernel
theorem dX0_filledHeight_6 : decode cX0_filledHeight 6 = .ok (.getfield 35, 3) := by decide +kernel
theorem dX0_filledHeight_9 : decode cX0_filledHeight 9 = .ok (.if_icmp .ge 35, 3) := by decide +kernel
theorem dX0_filledHeight_12 : decode cX0_filledHeight 12 = .ok (.aload_n 0, 1) := by decide +kernel
theorem dX0_filledHeight_13 : decode cX0_filledHeight 13 = .ok (.getfield 26, 3) := by decide +kernel
theorem dX0_filledHeight_16 : decode cX0_filledHeight 16 = .ok (.iload_n 2, 1) := by decide +kernel
theorem dX0_filledHeight_17 : decode cX0_filledHeight 17 = .ok (.aaload, 1) := by decide +kernel
theorem dX0_filledHeight_18 : decode cX0_filledHeight 18 = .ok (.getfield 56, 3) := by decide +kernel
theorem dX0_filledHeight_21 : decode cX0_filledHeight 21 = .ok (.ifCond .eq 17, 3) := by decide +kernel
theorem dX0_filledHeight_24 : decode cX0_filledHeight 24 = .ok (.iload_n 1, 1) := by decide +kernel
theorem dX0_filledHeight_25 : decode cX0_filledHeight 25 = .ok (.aload_n 0, 1) := by decide +kernel
theorem dX0_filledHeight_26 : decode cX0_filledHeight 26 = .ok (.getfield 26, 3) := by decide +kernel
theorem dX0_filledHeight_29 : decode cX0_filledHeight 29 = .ok (.iload_n 2, 1) := by decide +kernel
theorem dX0_filledHeight_30 : decode cX0_filledHeight 30 = .ok (.aaload, 1) := by decide +kernel
theorem dX0_filledHeight_31 : decode cX0_filledHeight 31 = .ok (.getfield 64, 3) := by decide +kernel
theorem dX0_filledHeight_34 : decode cX0_filledHeight 34 = .ok (.invokestatic 96, 3) := by decide +kernel
theorem dX0_filledHeight_37 : decode cX0_filledHeight 37 = .ok (.istore_n 1, 1) := by decide +kernel
theorem dX0_filledHeight_38 : decode cX0_filledHeight 38 = .ok (.iinc 2 1, 3) := by decide +kernel
theorem dX0_filledHeight_41 : decode cX0_filledHeight 41 = .ok (.goto (-37), 3) := by decide +kernel
theorem dX0_filledHeight_44 : decode cX0_filledHeight 44 = .ok (.iload_n 1, 1) := by decide +kernel
theorem dX0_filledHeight_45 : decode cX0_filledHeight 45 = .ok (.ireturn, 1) := by decide +kernel
theorem dX0_air_0 : decode cX0_air 0 = .ok (.aload_n 0, 1) := by decide +kernel
theorem dX0_air_1 : decode cX0_air 1 = .ok (.getfield 9, 3) := by decide +kernel
theorem dX0_air_4 : decode cX0_air 4 = .ok (.aload_n 0, 1) := by decide +kernel
theorem dX0_air_5 : decode cX0_air 5 = .ok (.getfield 15, 3) := by decide +kernel
theorem dX0_air_8 : decode cX0_air 8 = .ok (.imul, 1) := by decide +kernel
theorem dX0_air_9 : decode cX0_air 9 = .ok (.aload_n 0, 1) := by decide +kernel
theorem dX0_air_10 : decode cX0_air 10 = .ok (.invokevirtual 101, 3) := by decide +kernel
theorem dX0_air_13 : decode cX0_air 13 = .ok (.imul, 1) := by decide +kernel
theorem dX0_air_14 : decode cX0_air 14 = .ok (.istore_n 1, 1) := by decide +kernel
theorem dX0_air_15 : decode cX0_air 15 = .ok (.iconst 0, 1) := by decide +kernel
theorem dX0_air_16 : decode cX0_air 16 = .ok (.istore_n 2, 1) := by decide +kernel
theorem dX0_air_17 : decode cX0_air 17 = .ok (.iload_n 2, 1) := by decide +kernel
theorem dX0_air_18 : decode cX0_air 18 = .ok (.aload_n 0, 1) := by decide +kernel
theorem dX0_air_19 : decode cX0_air 19 = .ok (.getfield 35, 3) := by decide +kernel
theorem dX0_air_22 : decode cX0_air 22 = .ok (.if_icmp .ge 43, 3) := by decide +kernel
theorem dX0_air_25 : decode cX0_air 25 = .ok (.aload_n 0, 1) := by decide +kernel
theorem dX0_air_26 : decode cX0_air 26 = .ok (.getfield 26, 3) := by decide +kernel
theorem dX0_air_29 : decode cX0_air 29 = .ok (.iload_n 2, 1) := by decide +kernel
theorem dX0_air_30 : decode cX0_air 30 = .ok (.aaload, 1) := by decide +kernel
theorem dX0_air_31 : decode cX0_air 31 = .ok (.getfield 56, 3) := by decide +kernel
theorem dX0_air_34 : decode cX0_air 34 = .ok (.ifCond .eq 25, 3) := by decide +kernel
theorem dX0_air_37 : decode cX0_air 37 = .ok (.iload_n 1, 1) := by decide +kernel
theorem dX0_air_38 : decode cX0_air 38 = .ok (.aload_n 0, 1) := by decide +kernel
theorem dX0_air_39 : decode cX0_air 39 = .ok (.getfield 26, 3) := by decide +kernel
theorem dX0_air_42 : decode cX0_air 42 = .ok (.iload_n 2, 1) := by decide +kernel
theorem dX0_air_43 : decode cX0_air 43 = .ok (.aaload, 1) := by decide +kernel
theorem dX0_air_44 : decode cX0_air 44 = .ok (.invokevirtual 104, 3) := by decide +kernel
theorem dX0_air_47 : decode cX0_air 47 = .ok (.aload_n 0, 1) := by decide +kernel
theorem dX0_air_48 : decode cX0_air 48 = .ok (.getfield 26, 3) := by decide +kernel
theorem dX0_air_51 : decode cX0_air 51 = .ok (.iload_n 2, 1) := by decide +kernel
theorem dX0_air_52 : decode cX0_air 52 = .ok (.aaload, 1) := by decide +kernel
theorem dX0_air_53 : decode cX0_air 53 = .ok (.invokevirtual 52, 3) := by decide +kernel
theorem dX0_air_56 : decode cX0_air 56 = .ok (.imul, 1) := by decide +kernel
theorem dX0_air_57 : decode cX0_air 57 = .ok (.isub, 1) := by decide +kernel
theorem dX0_air_58 : decode cX0_air 58 = .ok (.istore_n 1, 1) := by decide +kernel
theorem dX0_air_59 : decode cX0_air 59 = .ok (.iinc 2 1, 3) := by decide +kernel
theorem dX0_air_62 : decode cX0_air 62 = .ok (.goto (-45), 3) := by decide +kernel
theorem dX0_air_65 : decode cX0_air 65 = .ok (.iload_n 1, 1) := by decide +kernel
theorem dX0_air_66 : decode cX0_air 66 = .ok (.ireturn, 1) := by decide +kernel
theorem dX0_playedLifts_0 : decode cX0_playedLifts 0 = .ok (.aload_n 0, 1) := by decide +kernel
theorem dX0_playedLifts_1 : decode cX0_playedLifts 1 = .ok (.invokevirtual 75, 3) := by decide +kernel
theorem dX0_playedLifts_4 : decode cX0_playedLifts 4 = .ok (.istore_n 2, 1) := by decide +kernel
theorem dX0_playedLifts_5 : decode cX0_playedLifts 5 = .ok (.iconst 0, 1) := by decide +kernel
theorem dX0_playedLifts_6 : decode cX0_playedLifts 6 = .ok (.istore_n 3, 1) := by decide +kernel
theorem dX0_playedLifts_7 : decode cX0_playedLifts 7 = .ok (.iconst 0, 1) := by decide +kernel
theorem dX0_playedLifts_8 : decode cX0_playedLifts 8 = .ok (.istore 4, 2) := by decide +kernel
theorem dX0_playedLifts_10 : decode cX0_playedLifts 10 = .ok (.iload 4, 2) := by decide +kernel
theorem dX0_playedLifts_12 : decode cX0_playedLifts 12 = .ok (.bipush 9, 2) := by decide +kernel
theorem dX0_playedLifts_14 : decode cX0_playedLifts 14 = .ok (.if_icmp .gt 81, 3) := by decide +kernel
theorem dX0_playedLifts_17 : decode cX0_playedLifts 17 = .ok (.iconst 0, 1) := by decide +kernel
theorem dX0_playedLifts_18 : decode cX0_playedLifts 18 = .ok (.istore 5, 2) := by decide +kernel
theorem dX0_playedLifts_20 : decode cX0_playedLifts 20 = .ok (.iload 5, 2) := by decide +kernel
theorem dX0_playedLifts_22 : decode cX0_playedLifts 22 = .ok (.aload_n 0, 1) := by decide +kernel
theorem dX0_playedLifts_23 : decode cX0_playedLifts 23 = .ok (.getfield 35, 3) := by decide +kernel
theorem dX0_playedLifts_26 : decode cX0_playedLifts 26 = .ok (.if_icmp .ge 63, 3) := by decide +kernel
theorem dX0_playedLifts_29 : decode cX0_playedLifts 29 = .ok (.aload_n 0, 1) := by decide +kernel
theorem dX0_playedLifts_30 : decode cX0_playedLifts 30 = .ok (.getfield 26, 3) := by decide +kernel
theorem dX0_playedLifts_33 : decode cX0_playedLifts 33 = .ok (.iload 5, 2) := by decide +kernel
theorem dX0_playedLifts_35 : decode cX0_playedLifts 35 = .ok (.aaload, 1) := by decide +kernel
theorem dX0_playedLifts_36 : decode cX0_playedLifts 36 = .ok (.getfield 81, 3) := by decide +kernel
theorem dX0_playedLifts_39 : decode cX0_playedLifts 39 = .ok (.iload 4, 2) := by decide +kernel
theorem dX0_playedLifts_41 : decode cX0_playedLifts 41 = .ok (.if_icmp .ne 42, 3) := by decide +kernel
theorem dX0_playedLifts_44 : decode cX0_playedLifts 44 = .ok (.iload_n 2, 1) := by decide +kernel
theorem dX0_playedLifts_45 : decode cX0_playedLifts 45 = .ok (.iconst 1, 1) := by decide +kernel
theorem dX0_playedLifts_46 : decode cX0_playedLifts 46 = .ok (.iload 5, 2) := by decide +kernel
theorem dX0_playedLifts_48 : decode cX0_playedLifts 48 = .ok (.ishl, 1) := by decide +kernel
theorem dX0_playedLifts_49 : decode cX0_playedLifts 49 = .ok (.iand, 1) := by decide +kernel
theorem dX0_playedLifts_50 : decode cX0_playedLifts 50 = .ok (.ifCond .eq 33, 3) := by decide +kernel
theorem dX0_playedLifts_53 : decode cX0_playedLifts 53 = .ok (.iload_n 3, 1) := by decide +kernel
theorem dX0_playedLifts_54 : decode cX0_playedLifts 54 = .ok (.aload_n 0, 1) := by decide +kernel
theorem dX0_playedLifts_55 : decode cX0_playedLifts 55 = .ok (.iload 5, 2) := by decide +kernel
theorem dX0_playedLifts_57 : decode cX0_playedLifts 57 = .ok (.iload_n 2, 1) := by decide +kernel
theorem dX0_playedLifts_58 : decode cX0_playedLifts 58 = .ok (.invokevirtual 77, 3) := by decide +kernel
theorem dX0_playedLifts_61 : decode cX0_playedLifts 61 = .ok (.invokestatic 87, 3) := by decide +kernel
theorem dX0_playedLifts_64 : decode cX0_playedLifts 64 = .ok (.iadd, 1) := by decide +kernel
theorem dX0_playedLifts_65 : decode cX0_playedLifts 65 = .ok (.istore_n 3, 1) := by decide +kernel
theorem dX0_playedLifts_66 : decode cX0_playedLifts 66 = .ok (.iload_n 2, 1) := by decide +kernel
theorem dX0_playedLifts_67 : decode cX0_playedLifts 67 = .ok (.iconst 1, 1) := by decide +kernel
theorem dX0_playedLifts_68 : decode cX0_playedLifts 68 = .ok (.iload 5, 2) := by decide +kernel
theorem dX0_playedLifts_70 : decode cX0_playedLifts 70 = .ok (.ishl, 1) := by decide +kernel
theorem dX0_playedLifts_71 : decode cX0_playedLifts 71 = .ok (.iconst (-1), 1) := by decide +kernel
theorem dX0_playedLifts_72 : decode cX0_playedLifts 72 = .ok (.ixor, 1) := by decide +kernel
theorem dX0_playedLifts_73 : decode cX0_playedLifts 73 = .ok (.iand, 1) := by decide +kernel
theorem dX0_playedLifts_74 : decode cX0_playedLifts 74 = .ok (.istore_n 2, 1) := by decide +kernel
theorem dX0_playedLifts_75 : decode cX0_playedLifts 75 = .ok (.iload 5, 2) := by decide +kernel
theorem dX0_playedLifts_77 : decode cX0_playedLifts 77 = .ok (.iload_n 1, 1) := by decide +kernel
theorem dX0_playedLifts_78 : decode cX0_playedLifts 78 = .ok (.if_icmp .ne 5, 3) := by decide +kernel
theorem dX0_playedLifts_81 : decode cX0_playedLifts 81 = .ok (.iload_n 3, 1) := by decide +kernel
theorem dX0_playedLifts_82 : decode cX0_playedLifts 82 = .ok (.ireturn, 1) := by decide +kernel
theorem dX0_playedLifts_83 : decode cX0_playedLifts 83 = .ok (.iinc 5 1, 3) := by decide +kernel
theorem dX0_playedLifts_86 : decode cX0_playedLifts 86 = .ok (.goto (-66), 3) := by decide +kernel
theorem dX0_playedLifts_89 : decode cX0_playedLifts 89 = .ok (.iinc 4 1, 3) := by decide +kernel
theorem dX0_playedLifts_92 : decode cX0_playedLifts 92 = .ok (.goto (-82), 3) := by decide +kernel
theorem dX0_playedLifts_95 : decode cX0_playedLifts 95 = .ok (.iload_n 3, 1) := by decide +kernel
theorem dX0_playedLifts_96 : decode cX0_playedLifts 96 = .ok (.ireturn, 1) := by decide +kernel
theorem dX1_init_0 : decode cX1_init 0 = .ok (.aload_n 0, 1) := by decide +kernel
theorem dX1_init_1 : decode cX1_init 1 = .ok (.invokespecial 3, 3) := by decide +kernel
theorem dX1_init_4 : decode cX1_init 4 = .ok (.aload_n 0, 1) := by decide +kernel
theorem dX1_init_5 : decode cX1_init 5 = .ok (.bipush 100, 2) := by decide +kernel
theorem dX1_init_7 : decode cX1_init 7 = .ok (.newarray .int, 2) := by decide +kernel
theorem dX1_init_9 : decode cX1_init 9 = .ok (.putfield 9, 3) := by decide +kernel
theorem dX1_init_12 : decode cX1_init 12 = .ok (.return_, 1) := by decide +kernel
theorem dX1_survey_0 : decode cX1_survey 0 = .ok (.iconst 0, 1) := by decide +kernel
theorem dX1_survey_1 : decode cX1_survey 1 = .ok (.istore_n 2, 1) := by decide +kernel
theorem dX1_survey_2 : decode cX1_survey 2 = .ok (.iload_n 2, 1) := by decide +kernel
theorem dX1_survey_3 : decode cX1_survey 3 = .ok (.aload_n 0, 1) := by decide +kernel
theorem dX1_survey_4 : decode cX1_survey 4 = .ok (.getfield 9, 3) := by decide +kernel
theorem dX1_survey_7 : decode cX1_survey 7 = .ok (.arraylength, 1) := by decide +kernel
theorem dX1_survey_8 : decode cX1_survey 8 = .ok (.if_icmp .ge 16, 3) := by decide +kernel
theorem dX1_survey_11 : decode cX1_survey 11 = .ok (.aload_n 0, 1) := by decide +kernel
theorem dX1_survey_12 : decode cX1_survey 12 = .ok (.getfield 9, 3) := by decide +kernel
theorem dX1_survey_15 : decode cX1_survey 15 = .ok (.iload_n 2, 1) := by decide +kernel
theorem dX1_survey_16 : decode cX1_survey 16 = .ok (.iconst 0, 1) := by decide +kernel
theorem dX1_survey_17 : decode cX1_survey 17 = .ok (.iastore, 1) := by decide +kernel
theorem dX1_survey_18 : decode cX1_survey 18 = .ok (.iinc 2 1, 3) := by decide +kernel
theorem dX1_survey_21 : decode cX1_survey 21 = .ok (.goto (-19), 3) := by decide +kernel
theorem dX1_survey_24 : decode cX1_survey 24 = .ok (.iconst 0, 1) := by decide +kernel
theorem dX1_survey_25 : decode cX1_survey 25 = .ok (.istore_n 2, 1) := by decide +kernel
theorem dX1_survey_26 : decode cX1_survey 26 = .ok (.iload_n 2, 1) := by decide +kernel
theorem dX1_survey_27 : decode cX1_survey 27 = .ok (.aload_n 1, 1) := by decide +kernel
theorem dX1_survey_28 : decode cX1_survey 28 = .ok (.getfield 15, 3) := by decide +kernel
theorem dX1_survey_31 : decode cX1_survey 31 = .ok (.if_icmp .ge 20, 3) := by decide +kernel
theorem dX1_survey_34 : decode cX1_survey 34 = .ok (.aload_n 0, 1) := by decide +kernel
theorem dX1_survey_35 : decode cX1_survey 35 = .ok (.aload_n 1, 1) := by decide +kernel
theorem dX1_survey_36 : decode cX1_survey 36 = .ok (.aload_n 1, 1) := by decide +kernel
theorem dX1_survey_37 : decode cX1_survey 37 = .ok (.getfield 21, 3) := by decide +kernel
theorem dX1_survey_40 : decode cX1_survey 40 = .ok (.iload_n 2, 1) := by decide +kernel
theorem dX1_survey_41 : decode cX1_survey 41 = .ok (.aaload, 1) := by decide +kernel
theorem dX1_survey_42 : decode cX1_survey 42 = .ok (.invokevirtual 25, 3) := by decide +kernel
theorem dX1_survey_45 : decode cX1_survey 45 = .ok (.iinc 2 1, 3) := by decide +kernel
theorem dX1_survey_48 : decode cX1_survey 48 = .ok (.goto (-22), 3) := by decide +kernel
theorem dX1_survey_51 : decode cX1_survey 51 = .ok (.return_, 1) := by decide +kernel
theorem dX1_raise_0 : decode cX1_raise 0 = .ok (.aload_n 2, 1) := by decide +kernel
theorem dX1_raise_1 : decode cX1_raise 1 = .ok (.getfield 29, 3) := by decide +kernel
theorem dX1_raise_4 : decode cX1_raise 4 = .ok (.ifCond .eq 23, 3) := by decide +kernel
theorem dX1_raise_7 : decode cX1_raise 7 = .ok (.aload_n 1, 1) := by decide +kernel
theorem dX1_raise_8 : decode cX1_raise 8 = .ok (.aload_n 2, 1) := by decide +kernel
theorem dX1_raise_9 : decode cX1_raise 9 = .ok (.aload_n 2, 1) := by decide +kernel
theorem dX1_raise_10 : decode cX1_raise 10 = .ok (.getfield 35, 3) := by decide +kernel
theorem dX1_raise_13 : decode cX1_raise 13 = .ok (.aload_n 2, 1) := by decide +kernel
theorem dX1_raise_14 : decode cX1_raise 14 = .ok (.getfield 38, 3) := by decide +kernel
theorem dX1_raise_17 : decode cX1_raise 17 = .ok (.aload_n 2, 1) := by decide +kernel
theorem dX1_raise_18 : decode cX1_raise 18 = .ok (.getfield 41, 3) := by decide +kernel
theorem dX1_raise_21 : decode cX1_raise 21 = .ok (.invokevirtual 44, 3) := by decide +kernel
theorem dX1_raise_24 : decode cX1_raise 24 = .ok (.ifCond .ne 4, 3) := by decide +kernel
theorem dX1_raise_27 : decode cX1_raise 27 = .ok (.return_, 1) := by decide +kernel
theorem dX1_raise_28 : decode cX1_raise 28 = .ok (.aload_n 2, 1) := by decide +kernel
theorem dX1_raise_29 : decode cX1_raise 29 = .ok (.getfield 38, 3) := by decide +kernel
theorem dX1_raise_32 : decode cX1_raise 32 = .ok (.istore_n 3, 1) := by decide +kernel
theorem dX1_raise_33 : decode cX1_raise 33 = .ok (.iload_n 3, 1) := by decide +kernel
theorem dX1_raise_34 : decode cX1_raise 34 = .ok (.aload_n 2, 1) := by decide +kernel
theorem dX1_raise_35 : decode cX1_raise 35 = .ok (.getfield 48, 3) := by decide +kernel
theorem dX1_raise_38 : decode cX1_raise 38 = .ok (.if_icmp .ge 60, 3) := by decide +kernel
theorem dX1_raise_41 : decode cX1_raise 41 = .ok (.aload_n 2, 1) := by decide +kernel
theorem dX1_raise_42 : decode cX1_raise 42 = .ok (.getfield 35, 3) := by decide +kernel
theorem dX1_raise_45 : decode cX1_raise 45 = .ok (.istore 4, 2) := by decide +kernel
theorem dX1_raise_47 : decode cX1_raise 47 = .ok (.iload 4, 2) := by decide +kernel
theorem dX1_raise_49 : decode cX1_raise 49 = .ok (.aload_n 2, 1) := by decide +kernel
theorem dX1_raise_50 : decode cX1_raise 50 = .ok (.getfield 51, 3) := by decide +kernel
theorem dX1_raise_53 : decode cX1_raise 53 = .ok (.if_icmp .ge 39, 3) := by decide +kernel
theorem dX1_raise_56 : decode cX1_raise 56 = .ok (.iload_n 3, 1) := by decide +kernel
theorem dX1_raise_57 : decode cX1_raise 57 = .ok (.bipush 10, 2) := by decide +kernel
theorem dX1_raise_59 : decode cX1_raise 59 = .ok (.imul, 1) := by decide +kernel
theorem dX1_raise_60 : decode cX1_raise 60 = .ok (.iload 4, 2) := by decide +kernel
theorem dX1_raise_62 : decode cX1_raise 62 = .ok (.iadd, 1) := by decide +kernel
theorem dX1_raise_63 : decode cX1_raise 63 = .ok (.istore 5, 2) := by decide +kernel
theorem dX1_raise_65 : decode cX1_raise 65 = .ok (.aload_n 0, 1) := by decide +kernel
theorem dX1_raise_66 : decode cX1_raise 66 = .ok (.getfield 9, 3) := by decide +kernel
theorem dX1_raise_69 : decode cX1_raise 69 = .ok (.iload 5, 2) := by decide +kernel
theorem dX1_raise_71 : decode cX1_raise 71 = .ok (.aload_n 0, 1) := by decide +kernel
theorem dX1_raise_72 : decode cX1_raise 72 = .ok (.getfield 9, 3) := by decide +kernel
theorem dX1_raise_75 : decode cX1_raise 75 = .ok (.iload 5, 2) := by decide +kernel
theorem dX1_raise_77 : decode cX1_raise 77 = .ok (.iaload, 1) := by decide +kernel
theorem dX1_raise_78 : decode cX1_raise 78 = .ok (.aload_n 2, 1) := by decide +kernel
theorem dX1_raise_79 : decode cX1_raise 79 = .ok (.getfield 54, 3) := by decide +kernel
theorem dX1_raise_82 : decode cX1_raise 82 = .ok (.invokestatic 57, 3) := by decide +kernel
theorem dX1_raise_85 : decode cX1_raise 85 = .ok (.iastore, 1) := by decide +kernel
theorem dX1_raise_86 : decode cX1_raise 86 = .ok (.iinc 4 1, 3) := by decide +kernel
theorem dX1_raise_89 : decode cX1_raise 89 = .ok (.goto (-42), 3) := by decide +kernel
theorem dX1_raise_92 : decode cX1_raise 92 = .ok (.iinc 3 1, 3) := by decide +kernel
theorem dX1_raise_95 : decode cX1_raise 95 = .ok (.goto (-62), 3) := by decide +kernel
theorem dX1_raise_98 : decode cX1_raise 98 = .ok (.return_, 1) := by decide +kernel
theorem dX1_holds_0 : decode cX1_holds 0 = .ok (.aload_n 0, 1) := by decide +kernel
theorem dX1_holds_1 : decode cX1_holds 1 = .ok (.iconst 0, 1) := by decide +kernel
theorem dX1_holds_2 : decode cX1_holds 2 = .ok (.putfield 63, 3) := by decide +kernel
theorem dX1_holds_5 : decode cX1_holds 5 = .ok (.aload_n 0, 1) := by decide +kernel
theorem dX1_holds_6 : decode cX1_holds 6 = .ok (.iconst 0, 1) := by decide +kernel
theorem dX1_holds_7 : decode cX1_holds 7 = .ok (.putfield 66, 3) := by decide +kernel
theorem dX1_holds_10 : decode cX1_holds 10 = .ok (.aload_n 1, 1) := by decide +kernel
theorem dX1_holds_11 : decode cX1_holds 11 = .ok (.aload_n 2, 1) := by decide +kernel
theorem dX1_holds_12 : decode cX1_holds 12 = .ok (.iload_n 3, 1) := by decide +kernel
theorem dX1_holds_13 : decode cX1_holds 13 = .ok (.iload 4, 2) := by decide +kernel
theorem dX1_holds_15 : decode cX1_holds 15 = .ok (.iload 5, 2) := by decide +kernel
theorem dX1_holds_17 : decode cX1_holds 17 = .ok (.invokevirtual 44, 3) := by decide +kernel
theorem dX1_holds_20 : decode cX1_holds 20 = .ok (.ifCond .ne 5, 3) := by decide +kernel
theorem dX1_holds_23 : decode cX1_holds 23 = .ok (.iconst 0, 1) := by decide +kernel
theorem dX1_holds_24 : decode cX1_holds 24 = .ok (.ireturn, 1) := by decide +kernel
theorem dX1_holds_25 : decode cX1_holds 25 = .ok (.iload_n 3, 1) := by decide +kernel
theorem dX1_holds_26 : decode cX1_holds 26 = .ok (.aload_n 2, 1) := by decide +kernel
theorem dX1_holds_27 : decode cX1_holds 27 = .ok (.iload 5, 2) := by decide +kernel
theorem dX1_holds_29 : decode cX1_holds 29 = .ok (.invokevirtual 69, 3) := by decide +kernel
theorem dX1_holds_32 : decode cX1_holds 32 = .ok (.iadd, 1) := by decide +kernel
theorem dX1_holds_33 : decode cX1_holds 33 = .ok (.istore 7, 2) := by decide +kernel
theorem dX1_holds_35 : decode cX1_holds 35 = .ok (.iload 4, 2) := by decide +kernel
theorem dX1_holds_37 : decode cX1_holds 37 = .ok (.aload_n 2, 1) := by decide +kernel
theorem dX1_holds_38 : decode cX1_holds 38 = .ok (.iload 5, 2) := by decide +kernel
theorem dX1_holds_40 : decode cX1_holds 40 = .ok (.invokevirtual 73, 3) := by decide +kernel
theorem dX1_holds_43 : decode cX1_holds 43 = .ok (.iadd, 1) := by decide +kernel
theorem dX1_holds_44 : decode cX1_holds 44 = .ok (.istore 8, 2) := by decide +kernel
theorem dX1_holds_46 : decode cX1_holds 46 = .ok (.iload 4, 2) := by decide +kernel
theorem dX1_holds_48 : decode cX1_holds 48 = .ok (.istore 9, 2) := by decide +kernel
theorem dX1_holds_50 : decode cX1_holds 50 = .ok (.iload 9, 2) := by decide +kernel
theorem dX1_holds_52 : decode cX1_holds 52 = .ok (.iload 8, 2) := by decide +kernel
theorem dX1_holds_54 : decode cX1_holds 54 = .ok (.if_icmp .ge 91, 3) := by decide +kernel
theorem dX1_holds_57 : decode cX1_holds 57 = .ok (.iload_n 3, 1) := by decide +kernel
theorem dX1_holds_58 : decode cX1_holds 58 = .ok (.istore 10, 2) := by decide +kernel
theorem dX1_holds_60 : decode cX1_holds 60 = .ok (.iload 10, 2) := by decide +kernel
theorem dX1_holds_62 : decode cX1_holds 62 = .ok (.iload 7, 2) := by decide +kernel
theorem dX1_holds_64 : decode cX1_holds 64 = .ok (.if_icmp .ge 75, 3) := by decide +kernel
theorem dX1_holds_67 : decode cX1_holds 67 = .ok (.aload_n 0, 1) := by decide +kernel
theorem dX1_holds_68 : decode cX1_holds 68 = .ok (.getfield 9, 3) := by decide +kernel
theorem dX1_holds_71 : decode cX1_holds 71 = .ok (.iload 9, 2) := by decide +kernel
theorem dX1_holds_73 : decode cX1_holds 73 = .ok (.bipush 10, 2) := by decide +kernel
theorem dX1_holds_75 : decode cX1_holds 75 = .ok (.imul, 1) := by decide +kernel
theorem dX1_holds_76 : decode cX1_holds 76 = .ok (.iload 10, 2) := by decide +kernel
theorem dX1_holds_78 : decode cX1_holds 78 = .ok (.iadd, 1) := by decide +kernel
theorem dX1_holds_79 : decode cX1_holds 79 = .ok (.iaload, 1) := by decide +kernel
theorem dX1_holds_80 : decode cX1_holds 80 = .ok (.istore 11, 2) := by decide +kernel
theorem dX1_holds_82 : decode cX1_holds 82 = .ok (.iload 11, 2) := by decide +kernel
theorem dX1_holds_84 : decode cX1_holds 84 = .ok (.iload 6, 2) := by decide +kernel
theorem dX1_holds_86 : decode cX1_holds 86 = .ok (.if_icmp .le 5, 3) := by decide +kernel
theorem dX1_holds_89 : decode cX1_holds 89 = .ok (.iconst 0, 1) := by decide +kernel
theorem dX1_holds_90 : decode cX1_holds 90 = .ok (.ireturn, 1) := by decide +kernel
theorem dX1_holds_91 : decode cX1_holds 91 = .ok (.iload 11, 2) := by decide +kernel
theorem dX1_holds_93 : decode cX1_holds 93 = .ok (.aload_n 0, 1) := by decide +kernel
theorem dX1_holds_94 : decode cX1_holds 94 = .ok (.getfield 63, 3) := by decide +kernel
theorem dX1_holds_97 : decode cX1_holds 97 = .ok (.if_icmp .le 17, 3) := by decide +kernel
theorem dX1_holds_100 : decode cX1_holds 100 = .ok (.aload_n 0, 1) := by decide +kernel
theorem dX1_holds_101 : decode cX1_holds 101 = .ok (.iload 11, 2) := by decide +kernel
theorem dX1_holds_103 : decode cX1_holds 103 = .ok (.putfield 63, 3) := by decide +kernel
theorem dX1_holds_106 : decode cX1_holds 106 = .ok (.aload_n 0, 1) := by decide +kernel
theorem dX1_holds_107 : decode cX1_holds 107 = .ok (.iconst 1, 1) := by decide +kernel
theorem dX1_holds_108 : decode cX1_holds 108 = .ok (.putfield 66, 3) := by decide +kernel
theorem dX1_holds_111 : decode cX1_holds 111 = .ok (.goto 22, 3) := by decide +kernel
theorem dX1_holds_114 : decode cX1_holds 114 = .ok (.iload 11, 2) := by decide +kernel
theorem dX1_holds_116 : decode cX1_holds 116 = .ok (.aload_n 0, 1) := by decide +kernel
theorem dX1_holds_117 : decode cX1_holds 117 = .ok (.getfield 63, 3) := by decide +kernel
theorem dX1_holds_120 : decode cX1_holds 120 = .ok (.if_icmp .ne 13, 3) := by decide +kernel
theorem dX1_holds_123 : decode cX1_holds 123 = .ok (.aload_n 0, 1) := by decide +kernel
theorem dX1_holds_124 : decode cX1_holds 124 = .ok (.dup, 1) := by decide +kernel
theorem dX1_holds_125 : decode cX1_holds 125 = .ok (.getfield 66, 3) := by decide +kernel
theorem dX1_holds_128 : decode cX1_holds 128 = .ok (.iconst 1, 1) := by decide +kernel
theorem dX1_holds_129 : decode cX1_holds 129 = .ok (.iadd, 1) := by decide +kernel
theorem dX1_holds_130 : decode cX1_holds 130 = .ok (.putfield 66, 3) := by decide +kernel
theorem dX1_holds_133 : decode cX1_holds 133 = .ok (.iinc 10 1, 3) := by decide +kernel
theorem dX1_holds_136 : decode cX1_holds 136 = .ok (.goto (-76), 3) := by decide +kernel
theorem dX1_holds_139 : decode cX1_holds 139 = .ok (.iinc 9 1, 3) := by decide +kernel
theorem dX1_holds_142 : decode cX1_holds 142 = .ok (.goto (-92), 3) := by decide +kernel
theorem dX1_holds_145 : decode cX1_holds 145 = .ok (.bipush 100, 2) := by decide +kernel
theorem dX1_holds_147 : decode cX1_holds 147 = .ok (.aload_n 0, 1) := by decide +kernel
theorem dX1_holds_148 : decode cX1_holds 148 = .ok (.getfield 66, 3) := by decide +kernel
theorem dX1_holds_151 : decode cX1_holds 151 = .ok (.imul, 1) := by decide +kernel
theorem dX1_holds_152 : decode cX1_holds 152 = .ok (.aload_n 1, 1) := by decide +kernel
theorem dX1_holds_153 : decode cX1_holds 153 = .ok (.getfield 76, 3) := by decide +kernel
theorem dX1_holds_156 : decode cX1_holds 156 = .ok (.aload_n 2, 1) := by decide +kernel
theorem dX1_holds_157 : decode cX1_holds 157 = .ok (.invokevirtual 79, 3) := by decide +kernel
theorem dX1_holds_160 : decode cX1_holds 160 = .ok (.imul, 1) := by decide +kernel
theorem dX1_holds_161 : decode cX1_holds 161 = .ok (.if_icmp .lt 7, 3) := by decide +kernel
theorem dX1_holds_164 : decode cX1_holds 164 = .ok (.iconst 1, 1) := by decide +kernel
theorem dX1_holds_165 : decode cX1_holds 165 = .ok (.goto 4, 3) := by decide +kernel
theorem dX1_holds_168 : decode cX1_holds 168 = .ok (.iconst 0, 1) := by decide +kernel
theorem dX1_holds_169 : decode cX1_holds 169 = .ok (.ireturn, 1) := by decide +kernel
theorem dX1_search_0 : decode cX1_search 0 = .ok (.aload_n 0, 1) := by decide +kernel
theorem dX1_search_1 : decode cX1_search 1 = .ok (.iconst 0, 1) := by decide +kernel
theorem dX1_search_2 : decode cX1_search 2 = .ok (.putfield 83, 3) := by decide +kernel
theorem dX1_search_5 : decode cX1_search 5 = .ok (.aload_n 1, 1) := by decide +kernel
theorem dX1_search_6 : decode cX1_search 6 = .ok (.aload_n 2, 1) := by decide +kernel
theorem dX1_search_7 : decode cX1_search 7 = .ok (.invokevirtual 86, 3) := by decide +kernel
theorem dX1_search_10 : decode cX1_search 10 = .ok (.istore 4, 2) := by decide +kernel
theorem dX1_search_12 : decode cX1_search 12 = .ok (.aload_n 2, 1) := by decide +kernel
theorem dX1_search_13 : decode cX1_search 13 = .ok (.getfield 90, 3) := by decide +kernel
theorem dX1_search_16 : decode cX1_search 16 = .ok (.aload_n 2, 1) := by decide +kernel
theorem dX1_search_17 : decode cX1_search 17 = .ok (.getfield 93, 3) := by decide +kernel
theorem dX1_search_20 : decode cX1_search 20 = .ok (.if_icmp .ne 7, 3) := by decide +kernel
theorem dX1_search_23 : decode cX1_search 23 = .ok (.iconst 1, 1) := by decide +kernel
theorem dX1_search_24 : decode cX1_search 24 = .ok (.goto 4, 3) := by decide +kernel
theorem dX1_search_27 : decode cX1_search 27 = .ok (.iconst 2, 1) := by decide +kernel
theorem dX1_search_28 : decode cX1_search 28 = .ok (.istore 5, 2) := by decide +kernel
theorem dX1_search_30 : decode cX1_search 30 = .ok (.iconst 0, 1) := by decide +kernel
theorem dX1_search_31 : decode cX1_search 31 = .ok (.istore 6, 2) := by decide +kernel
theorem dX1_search_33 : decode cX1_search 33 = .ok (.iload 6, 2) := by decide +kernel
theorem dX1_search_35 : decode cX1_search 35 = .ok (.aload_n 1, 1) := by decide +kernel
theorem dX1_search_36 : decode cX1_search 36 = .ok (.getfield 96, 3) := by decide +kernel
theorem dX1_search_39 : decode cX1_search 39 = .ok (.if_icmp .ge 115, 3) := by decide +kernel
theorem dX1_search_42 : decode cX1_search 42 = .ok (.iload 4, 2) := by decide +kernel
theorem dX1_search_44 : decode cX1_search 44 = .ok (.ifCond .lt 110, 3) := by decide +kernel
theorem dX1_search_47 : decode cX1_search 47 = .ok (.iconst 0, 1) := by decide +kernel
theorem dX1_search_48 : decode cX1_search 48 = .ok (.istore 7, 2) := by decide +kernel
theorem dX1_search_50 : decode cX1_search 50 = .ok (.iload 7, 2) := by decide +kernel
theorem dX1_search_52 : decode cX1_search 52 = .ok (.aload_n 1, 1) := by decide +kernel
theorem dX1_search_53 : decode cX1_search 53 = .ok (.getfield 97, 3) := by decide +kernel
theorem dX1_search_56 : decode cX1_search 56 = .ok (.if_icmp .ge 92, 3) := by decide +kernel
theorem dX1_search_59 : decode cX1_search 59 = .ok (.iload 4, 2) := by decide +kernel
theorem dX1_search_61 : decode cX1_search 61 = .ok (.ifCond .lt 87, 3) := by decide +kernel
theorem dX1_search_64 : decode cX1_search 64 = .ok (.iconst 0, 1) := by decide +kernel
theorem dX1_search_65 : decode cX1_search 65 = .ok (.istore 8, 2) := by decide +kernel
theorem dX1_search_67 : decode cX1_search 67 = .ok (.iload 8, 2) := by decide +kernel
theorem dX1_search_69 : decode cX1_search 69 = .ok (.iload 5, 2) := by decide +kernel
theorem dX1_search_71 : decode cX1_search 71 = .ok (.if_icmp .ge 71, 3) := by decide +kernel
theorem dX1_search_74 : decode cX1_search 74 = .ok (.aload_n 0, 1) := by decide +kernel
theorem dX1_search_75 : decode cX1_search 75 = .ok (.aload_n 1, 1) := by decide +kernel
theorem dX1_search_76 : decode cX1_search 76 = .ok (.aload_n 2, 1) := by decide +kernel
theorem dX1_search_77 : decode cX1_search 77 = .ok (.iload 7, 2) := by decide +kernel
theorem dX1_search_79 : decode cX1_search 79 = .ok (.iload 6, 2) := by decide +kernel
theorem dX1_search_81 : decode cX1_search 81 = .ok (.iload 8, 2) := by decide +kernel
theorem dX1_search_83 : decode cX1_search 83 = .ok (.iconst 1, 1) := by decide +kernel
theorem dX1_search_84 : decode cX1_search 84 = .ok (.if_icmp .ne 7, 3) := by decide +kernel
theorem dX1_search_87 : decode cX1_search 87 = .ok (.iconst 1, 1) := by decide +kernel
theorem dX1_search_88 : decode cX1_search 88 = .ok (.goto 4, 3) := by decide +kernel
theorem dX1_search_91 : decode cX1_search 91 = .ok (.iconst 0, 1) := by decide +kernel
theorem dX1_search_92 : decode cX1_search 92 = .ok (.iload 4, 2) := by decide +kernel
theorem dX1_search_94 : decode cX1_search 94 = .ok (.invokevirtual 98, 3) := by decide +kernel
theorem dX1_search_97 : decode cX1_search 97 = .ok (.ifCond .eq 39, 3) := by decide +kernel
theorem dX1_search_100 : decode cX1_search 100 = .ok (.aload_n 0, 1) := by decide +kernel
theorem dX1_search_101 : decode cX1_search 101 = .ok (.iload 7, 2) := by decide +kernel
theorem dX1_search_103 : decode cX1_search 103 = .ok (.iload 6, 2) := by decide +kernel
theorem dX1_search_105 : decode cX1_search 105 = .ok (.iload 8, 2) := by decide +kernel
theorem dX1_search_107 : decode cX1_search 107 = .ok (.iconst 1, 1) := by decide +kernel
theorem dX1_search_108 : decode cX1_search 108 = .ok (.if_icmp .ne 7, 3) := by decide +kernel
theorem dX1_search_111 : decode cX1_search 111 = .ok (.iconst 1, 1) := by decide +kernel
theorem dX1_search_112 : decode cX1_search 112 = .ok (.goto 4, 3) := by decide +kernel
theorem dX1_search_115 : decode cX1_search 115 = .ok (.iconst 0, 1) := by decide +kernel
theorem dX1_search_116 : decode cX1_search 116 = .ok (.invokevirtual 102, 3) := by decide +kernel
theorem dX1_search_119 : decode cX1_search 119 = .ok (.iload_n 3, 1) := by decide +kernel
theorem dX1_search_120 : decode cX1_search 120 = .ok (.ifCond .eq 12, 3) := by decide +kernel
theorem dX1_search_123 : decode cX1_search 123 = .ok (.aload_n 0, 1) := by decide +kernel
theorem dX1_search_124 : decode cX1_search 124 = .ok (.getfield 63, 3) := by decide +kernel
theorem dX1_search_127 : decode cX1_search 127 = .ok (.iconst 1, 1) := by decide +kernel
theorem dX1_search_128 : decode cX1_search 128 = .ok (.isub, 1) := by decide +kernel
theorem dX1_search_129 : decode cX1_search 129 = .ok (.goto 5, 3) := by decide +kernel
theorem dX1_search_132 : decode cX1_search 132 = .ok (.iload 4, 2) := by decide +kernel
theorem dX1_search_134 : decode cX1_search 134 = .ok (.istore 4, 2) := by decide +kernel
theorem dX1_search_136 : decode cX1_search 136 = .ok (.iinc 8 1, 3) := by decide +kernel
theorem dX1_search_139 : decode cX1_search 139 = .ok (.goto (-72), 3) := by decide +kernel
theorem dX1_search_142 : decode cX1_search 142 = .ok (.iinc 7 1, 3) := by decide +kernel
theorem dX1_search_145 : decode cX1_search 145 = .ok (.goto (-95), 3) := by decide +kernel
theorem dX1_search_148 : decode cX1_search 148 = .ok (.iinc 6 1, 3) := by decide +kernel
theorem dX1_search_151 : decode cX1_search 151 = .ok (.goto (-118), 3) := by decide +kernel
theorem dX1_search_154 : decode cX1_search 154 = .ok (.return_, 1) := by decide +kernel
theorem dX1_keep_0 : decode cX1_keep 0 = .ok (.aload_n 0, 1) := by decide +kernel
theorem dX1_keep_1 : decode cX1_keep 1 = .ok (.dup, 1) := by decide +kernel
theorem dX1_keep_2 : decode cX1_keep 2 = .ok (.getfield 83, 3) := by decide +kernel
theorem dX1_keep_5 : decode cX1_keep 5 = .ok (.iconst 1, 1) := by decide +kernel
theorem dX1_keep_6 : decode cX1_keep 6 = .ok (.iadd, 1) := by decide +kernel
theorem dX1_keep_7 : decode cX1_keep 7 = .ok (.putfield 83, 3) := by decide +kernel
theorem dX1_keep_10 : decode cX1_keep 10 = .ok (.aload_n 0, 1) := by decide +kernel
theorem dX1_keep_11 : decode cX1_keep 11 = .ok (.iload_n 1, 1) := by decide +kernel
theorem dX1_keep_12 : decode cX1_keep 12 = .ok (.putfield 106, 3) := by decide +kernel
theorem dX1_keep_15 : decode cX1_keep 15 = .ok (.aload_n 0, 1) := by decide +kernel
theorem dX1_keep_16 : decode cX1_keep 16 = .ok (.iload_n 2, 1) := by decide +kernel
theorem dX1_keep_17 : decode cX1_keep 17 = .ok (.putfield 109, 3) := by decide +kernel
theorem dX1_keep_20 : decode cX1_keep 20 = .ok (.aload_n 0, 1) := by decide +kernel
theorem dX1_keep_21 : decode cX1_keep 21 = .ok (.iload_n 3, 1) := by decide +kernel
theorem dX1_keep_22 : decode cX1_keep 22 = .ok (.putfield 112, 3) := by decide +kernel
theorem dX1_keep_25 : decode cX1_keep 25 = .ok (.aload_n 0, 1) := by decide +kernel
theorem dX1_keep_26 : decode cX1_keep 26 = .ok (.aload_n 0, 1) := by decide +kernel
theorem dX1_keep_27 : decode cX1_keep 27 = .ok (.getfield 63, 3) := by decide +kernel
theorem dX1_keep_30 : decode cX1_keep 30 = .ok (.putfield 115, 3) := by decide +kernel
theorem dX1_keep_33 : decode cX1_keep 33 = .ok (.aload_n 0, 1) := by decide +kernel
theorem dX1_keep_34 : decode cX1_keep 34 = .ok (.aload_n 0, 1) := by decide +kernel
theorem dX1_keep_35 : decode cX1_keep 35 = .ok (.getfield 66, 3) := by decide +kernel
theorem dX1_keep_38 : decode cX1_keep 38 = .ok (.putfield 118, 3) := by decide +kernel
theorem dX1_keep_41 : decode cX1_keep 41 = .ok (.return_, 1) := by decide +kernel
theorem dX2_init_0 : decode cX2_init 0 = .ok (.aload_n 0, 1) := by decide +kernel
theorem dX2_init_1 : decode cX2_init 1 = .ok (.invokespecial 3, 3) := by decide +kernel
theorem dX2_init_4 : decode cX2_init 4 = .ok (.aload_n 0, 1) := by decide +kernel
theorem dX2_init_5 : decode cX2_init 5 = .ok (.bipush 8, 2) := by decide +kernel
theorem dX2_init_7 : decode cX2_init 7 = .ok (.anewarray 9, 3) := by decide +kernel
theorem dX2_init_10 : decode cX2_init 10 = .ok (.putfield 11, 3) := by decide +kernel
theorem dX2_init_13 : decode cX2_init 13 = .ok (.iconst 0, 1) := by decide +kernel
theorem dX2_init_14 : decode cX2_init 14 = .ok (.istore_n 1, 1) := by decide +kernel
theorem dX2_init_15 : decode cX2_init 15 = .ok (.iload_n 1, 1) := by decide +kernel
theorem dX2_init_16 : decode cX2_init 16 = .ok (.bipush 8, 2) := by decide +kernel
theorem dX2_init_18 : decode cX2_init 18 = .ok (.if_icmp .ge 22, 3) := by decide +kernel
theorem dX2_init_21 : decode cX2_init 21 = .ok (.aload_n 0, 1) := by decide +kernel
theorem dX2_init_22 : decode cX2_init 22 = .ok (.getfield 11, 3) := by decide +kernel
theorem dX2_init_25 : decode cX2_init 25 = .ok (.iload_n 1, 1) := by decide +kernel
theorem dX2_init_26 : decode cX2_init 26 = .ok (.new 9, 3) := by decide +kernel
theorem dX2_init_29 : decode cX2_init 29 = .ok (.dup, 1) := by decide +kernel
theorem dX2_init_30 : decode cX2_init 30 = .ok (.invokespecial 17, 3) := by decide +kernel
theorem dX2_init_33 : decode cX2_init 33 = .ok (.aastore, 1) := by decide +kernel
theorem dX2_init_34 : decode cX2_init 34 = .ok (.iinc 1 1, 3) := by decide +kernel
theorem dX2_init_37 : decode cX2_init 37 = .ok (.goto (-22), 3) := by decide +kernel
theorem dX2_init_40 : decode cX2_init 40 = .ok (.return_, 1) := by decide +kernel
theorem dX2_record_0 : decode cX2_record 0 = .ok (.aload_n 0, 1) := by decide +kernel
theorem dX2_record_1 : decode cX2_record 1 = .ok (.getfield 18, 3) := by decide +kernel
theorem dX2_record_4 : decode cX2_record 4 = .ok (.bipush 8, 2) := by decide +kernel
theorem dX2_record_6 : decode cX2_record 6 = .ok (.if_icmp .ne 26, 3) := by decide +kernel
theorem dX2_record_9 : decode cX2_record 9 = .ok (.aload_n 0, 1) := by decide +kernel
theorem dX2_record_10 : decode cX2_record 10 = .ok (.aload_n 0, 1) := by decide +kernel
theorem dX2_record_11 : decode cX2_record 11 = .ok (.getfield 22, 3) := by decide +kernel
theorem dX2_record_14 : decode cX2_record 14 = .ok (.iconst 1, 1) := by decide +kernel
theorem dX2_record_15 : decode cX2_record 15 = .ok (.iadd, 1) := by decide +kernel
theorem dX2_record_16 : decode cX2_record 16 = .ok (.bipush 8, 2) := by decide +kernel
theorem dX2_record_18 : decode cX2_record 18 = .ok (.irem, 1) := by decide +kernel
theorem dX2_record_19 : decode cX2_record 19 = .ok (.putfield 22, 3) := by decide +kernel
theorem dX2_record_22 : decode cX2_record 22 = .ok (.aload_n 0, 1) := by decide +kernel
theorem dX2_record_23 : decode cX2_record 23 = .ok (.dup, 1) := by decide +kernel
theorem dX2_record_24 : decode cX2_record 24 = .ok (.getfield 18, 3) := by decide +kernel
theorem dX2_record_27 : decode cX2_record 27 = .ok (.iconst 1, 1) := by decide +kernel
theorem dX2_record_28 : decode cX2_record 28 = .ok (.isub, 1) := by decide +kernel
theorem dX2_record_29 : decode cX2_record 29 = .ok (.putfield 18, 3) := by decide +kernel
theorem dX2_record_32 : decode cX2_record 32 = .ok (.aload_n 0, 1) := by decide +kernel
theorem dX2_record_33 : decode cX2_record 33 = .ok (.getfield 11, 3) := by decide +kernel
theorem dX2_record_36 : decode cX2_record 36 = .ok (.aload_n 0, 1) := by decide +kernel
theorem dX2_record_37 : decode cX2_record 37 = .ok (.getfield 22, 3) := by decide +kernel
theorem dX2_record_40 : decode cX2_record 40 = .ok (.aload_n 0, 1) := by decide +kernel
theorem dX2_record_41 : decode cX2_record 41 = .ok (.getfield 18, 3) := by decide +kernel
theorem dX2_record_44 : decode cX2_record 44 = .ok (.iadd, 1) := by decide +kernel
theorem dX2_record_45 : decode cX2_record 45 = .ok (.bipush 8, 2) := by decide +kernel
theorem dX2_record_47 : decode cX2_record 47 = .ok (.irem, 1) := by decide +kernel
theorem dX2_record_48 : decode cX2_record 48 = .ok (.aaload, 1) := by decide +kernel
theorem dX2_record_49 : decode cX2_record 49 = .ok (.aload_n 1, 1) := by decide +kernel
theorem dX2_record_50 : decode cX2_record 50 = .ok (.invokevirtual 25, 3) := by decide +kernel
theorem dX2_record_53 : decode cX2_record 53 = .ok (.aload_n 0, 1) := by decide +kernel
theorem dX2_record_54 : decode cX2_record 54 = .ok (.dup, 1) := by decide +kernel
theorem dX2_record_55 : decode cX2_record 55 = .ok (.getfield 18, 3) := by decide +kernel
theorem dX2_record_58 : decode cX2_record 58 = .ok (.iconst 1, 1) := by decide +kernel
theorem dX2_record_59 : decode cX2_record 59 = .ok (.iadd, 1) := by decide +kernel
theorem dX2_record_60 : decode cX2_record 60 = .ok (.putfield 18, 3) := by decide +kernel
theorem dX2_record_63 : decode cX2_record 63 = .ok (.return_, 1) := by decide +kernel
theorem dX2_restore_0 : decode cX2_restore 0 = .ok (.aload_n 0, 1) := by decide +kernel
theorem dX2_restore_1 : decode cX2_restore 1 = .ok (.getfield 18, 3) := by decide +kernel
theorem dX2_restore_4 : decode cX2_restore 4 = .ok (.ifCond .le 34, 3) := by decide +kernel
theorem dX2_restore_7 : decode cX2_restore 7 = .ok (.aload_n 0, 1) := by decide +kernel
theorem dX2_restore_8 : decode cX2_restore 8 = .ok (.dup, 1) := by decide +kernel
theorem dX2_restore_9 : decode cX2_restore 9 = .ok (.getfield 18, 3) := by decide +kernel
theorem dX2_restore_12 : decode cX2_restore 12 = .ok (.iconst 1, 1) := by decide +kernel
theorem dX2_restore_13 : decode cX2_restore 13 = .ok (.isub, 1) := by decide +kernel
theorem dX2_restore_14 : decode cX2_restore 14 = .ok (.putfield 18, 3) := by decide +kernel
theorem dX2_restore_17 : decode cX2_restore 17 = .ok (.aload_n 1, 1) := by decide +kernel
theorem dX2_restore_18 : decode cX2_restore 18 = .ok (.aload_n 0, 1) := by decide +kernel
theorem dX2_restore_19 : decode cX2_restore 19 = .ok (.getfield 11, 3) := by decide +kernel
theorem dX2_restore_22 : decode cX2_restore 22 = .ok (.aload_n 0, 1) := by decide +kernel
theorem dX2_restore_23 : decode cX2_restore 23 = .ok (.getfield 22, 3) := by decide +kernel
theorem dX2_restore_26 : decode cX2_restore 26 = .ok (.aload_n 0, 1) := by decide +kernel
theorem dX2_restore_27 : decode cX2_restore 27 = .ok (.getfield 18, 3) := by decide +kernel
theorem dX2_restore_30 : decode cX2_restore 30 = .ok (.iadd, 1) := by decide +kernel
theorem dX2_restore_31 : decode cX2_restore 31 = .ok (.bipush 8, 2) := by decide +kernel
theorem dX2_restore_33 : decode cX2_restore 33 = .ok (.irem, 1) := by decide +kernel
theorem dX2_restore_34 : decode cX2_restore 34 = .ok (.aaload, 1) := by decide +kernel
theorem dX2_restore_35 : decode cX2_restore 35 = .ok (.invokevirtual 25, 3) := by decide +kernel
theorem dX2_restore_38 : decode cX2_restore 38 = .ok (.return_, 1) := by decide +kernel
theorem dX3_init_0 : decode cX3_init 0 = .ok (.aload_n 0, 1) := by decide +kernel
theorem dX3_init_1 : decode cX3_init 1 = .ok (.invokespecial 3, 3) := by decide +kernel
theorem dX3_init_4 : decode cX3_init 4 = .ok (.aload_n 0, 1) := by decide +kernel
theorem dX3_init_5 : decode cX3_init 5 = .ok (.bipush 12, 2) := by decide +kernel
theorem dX3_init_7 : decode cX3_init 7 = .ok (.newarray .int, 2) := by decide +kernel
theorem dX3_init_9 : decode cX3_init 9 = .ok (.putfield 9, 3) := by decide +kernel
theorem dX3_init_12 : decode cX3_init 12 = .ok (.aload_n 0, 1) := by decide +kernel
theorem dX3_init_13 : decode cX3_init 13 = .ok (.iconst 4, 1) := by decide +kernel
theorem dX3_init_14 : decode cX3_init 14 = .ok (.newarray .int, 2) := by decide +kernel
theorem dX3_init_16 : decode cX3_init 16 = .ok (.putfield 15, 3) := by decide +kernel
theorem dX3_init_19 : decode cX3_init 19 = .ok (.aload_n 0, 1) := by decide +kernel
theorem dX3_init_20 : decode cX3_init 20 = .ok (.new 18, 3) := by decide +kernel
theorem dX3_init_23 : decode cX3_init 23 = .ok (.dup, 1) := by decide +kernel
theorem dX3_init_24 : decode cX3_init 24 = .ok (.invokespecial 20, 3) := by decide +kernel
theorem dX3_init_27 : decode cX3_init 27 = .ok (.putfield 21, 3) := by decide +kernel
theorem dX3_init_30 : decode cX3_init 30 = .ok (.aload_n 0, 1) := by decide +kernel
theorem dX3_init_31 : decode cX3_init 31 = .ok (.bipush 12, 2) := by decide +kernel
theorem dX3_init_33 : decode cX3_init 33 = .ok (.newarray .int, 2) := by decide +kernel
theorem dX3_init_35 : decode cX3_init 35 = .ok (.putfield 25, 3) := by decide +kernel
theorem dX3_init_38 : decode cX3_init 38 = .ok (.aload_n 0, 1) := by decide +kernel
theorem dX3_init_39 : decode cX3_init 39 = .ok (.iconst 4, 1) := by decide +kernel
theorem dX3_init_40 : decode cX3_init 40 = .ok (.newarray .int, 2) := by decide +kernel
theorem dX3_init_42 : decode cX3_init 42 = .ok (.putfield 28, 3) := by decide +kernel
theorem dX3_init_45 : decode cX3_init 45 = .ok (.aload_n 0, 1) := by decide +kernel
theorem dX3_init_46 : decode cX3_init 46 = .ok (.new 31, 3) := by decide +kernel
theorem dX3_init_49 : decode cX3_init 49 = .ok (.dup, 1) := by decide +kernel
theorem dX3_init_50 : decode cX3_init 50 = .ok (.invokespecial 33, 3) := by decide +kernel
theorem dX3_init_53 : decode cX3_init 53 = .ok (.putfield 34, 3) := by decide +kernel
theorem dX3_init_56 : decode cX3_init 56 = .ok (.return_, 1) := by decide +kernel
theorem dX3_packUsually_0 : decode cX3_packUsually 0 = .ok (.aload_n 0, 1) := by decide +kernel
theorem dX3_packUsually_1 : decode cX3_packUsually 1 = .ok (.getfield 21, 3) := by decide +kernel
theorem dX3_packUsually_4 : decode cX3_packUsually 4 = .ok (.aload_n 1, 1) := by decide +kernel
theorem dX3_packUsually_5 : decode cX3_packUsually 5 = .ok (.invokevirtual 38, 3) := by decide +kernel
theorem dX3_packUsually_8 : decode cX3_packUsually 8 = .ok (.iconst 0, 1) := by decide +kernel
theorem dX3_packUsually_9 : decode cX3_packUsually 9 = .ok (.istore_n 2, 1) := by decide +kernel
theorem dX3_packUsually_10 : decode cX3_packUsually 10 = .ok (.iload_n 2, 1) := by decide +kernel
theorem dX3_packUsually_11 : decode cX3_packUsually 11 = .ok (.aload_n 0, 1) := by decide +kernel
theorem dX3_packUsually_12 : decode cX3_packUsually 12 = .ok (.getfield 21, 3) := by decide +kernel
theorem dX3_packUsually_15 : decode cX3_packUsually 15 = .ok (.getfield 42, 3) := by decide +kernel
theorem dX3_packUsually_18 : decode cX3_packUsually 18 = .ok (.if_icmp .ge 73, 3) := by decide +kernel
theorem dX3_packUsually_21 : decode cX3_packUsually 21 = .ok (.iload_n 2, 1) := by decide +kernel
theorem dX3_packUsually_22 : decode cX3_packUsually 22 = .ok (.istore_n 3, 1) := by decide +kernel
theorem dX3_packUsually_23 : decode cX3_packUsually 23 = .ok (.iload_n 3, 1) := by decide +kernel
theorem dX3_packUsually_24 : decode cX3_packUsually 24 = .ok (.ifCond .le 54, 3) := by decide +kernel
theorem dX3_packUsually_27 : decode cX3_packUsually 27 = .ok (.aload_n 0, 1) := by decide +kernel
theorem dX3_packUsually_28 : decode cX3_packUsually 28 = .ok (.getfield 21, 3) := by decide +kernel
theorem dX3_packUsually_31 : decode cX3_packUsually 31 = .ok (.getfield 46, 3) := by decide +kernel
theorem dX3_packUsually_34 : decode cX3_packUsually 34 = .ok (.iload_n 2, 1) := by decide +kernel
theorem dX3_packUsually_35 : decode cX3_packUsually 35 = .ok (.aaload, 1) := by decide +kernel
theorem dX3_packUsually_36 : decode cX3_packUsually 36 = .ok (.aload_n 0, 1) := by decide +kernel
theorem dX3_packUsually_37 : decode cX3_packUsually 37 = .ok (.getfield 21, 3) := by decide +kernel
theorem dX3_packUsually_40 : decode cX3_packUsually 40 = .ok (.getfield 46, 3) := by decide +kernel
theorem dX3_packUsually_43 : decode cX3_packUsually 43 = .ok (.aload_n 0, 1) := by decide +kernel
theorem dX3_packUsually_44 : decode cX3_packUsually 44 = .ok (.getfield 9, 3) := by decide +kernel
theorem dX3_packUsually_47 : decode cX3_packUsually 47 = .ok (.iload_n 3, 1) := by decide +kernel
theorem dX3_packUsually_48 : decode cX3_packUsually 48 = .ok (.iconst 1, 1) := by decide +kernel
theorem dX3_packUsually_49 : decode cX3_packUsually 49 = .ok (.isub, 1) := by decide +kernel
theorem dX3_packUsually_50 : decode cX3_packUsually 50 = .ok (.iaload, 1) := by decide +kernel
theorem dX3_packUsually_51 : decode cX3_packUsually 51 = .ok (.aaload, 1) := by decide +kernel
theorem dX3_packUsually_52 : decode cX3_packUsually 52 = .ok (.invokestatic 50, 3) := by decide +kernel
theorem dX3_packUsually_55 : decode cX3_packUsually 55 = .ok (.ifCond .eq 23, 3) := by decide +kernel
theorem dX3_packUsually_58 : decode cX3_packUsually 58 = .ok (.aload_n 0, 1) := by decide +kernel
theorem dX3_packUsually_59 : decode cX3_packUsually 59 = .ok (.getfield 9, 3) := by decide +kernel
theorem dX3_packUsually_62 : decode cX3_packUsually 62 = .ok (.iload_n 3, 1) := by decide +kernel
theorem dX3_packUsually_63 : decode cX3_packUsually 63 = .ok (.aload_n 0, 1) := by decide +kernel
theorem dX3_packUsually_64 : decode cX3_packUsually 64 = .ok (.getfield 9, 3) := by decide +kernel
theorem dX3_packUsually_67 : decode cX3_packUsually 67 = .ok (.iload_n 3, 1) := by decide +kernel
theorem dX3_packUsually_68 : decode cX3_packUsually 68 = .ok (.iconst 1, 1) := by decide +kernel
theorem dX3_packUsually_69 : decode cX3_packUsually 69 = .ok (.isub, 1) := by decide +kernel
theorem dX3_packUsually_70 : decode cX3_packUsually 70 = .ok (.iaload, 1) := by decide +kernel
theorem dX3_packUsually_71 : decode cX3_packUsually 71 = .ok (.iastore, 1) := by decide +kernel
theorem dX3_packUsually_72 : decode cX3_packUsually 72 = .ok (.iinc 3 (-1), 3) := by decide +kernel
theorem dX3_packUsually_75 : decode cX3_packUsually 75 = .ok (.goto (-52), 3) := by decide +kernel
theorem dX3_packUsually_78 : decode cX3_packUsually 78 = .ok (.aload_n 0, 1) := by decide +kernel
theorem dX3_packUsually_79 : decode cX3_packUsually 79 = .ok (.getfield 9, 3) := by decide +kernel
theorem dX3_packUsually_82 : decode cX3_packUsually 82 = .ok (.iload_n 3, 1) := by decide +kernel
theorem dX3_packUsually_83 : decode cX3_packUsually 83 = .ok (.iload_n 2, 1) := by decide +kernel
theorem dX3_packUsually_84 : decode cX3_packUsually 84 = .ok (.iastore, 1) := by decide +kernel
theorem dX3_packUsually_85 : decode cX3_packUsually 85 = .ok (.iinc 2 1, 3) := by decide +kernel
theorem dX3_packUsually_88 : decode cX3_packUsually 88 = .ok (.goto (-78), 3) := by decide +kernel
theorem dX3_packUsually_91 : decode cX3_packUsually 91 = .ok (.aload_n 0, 1) := by decide +kernel
theorem dX3_packUsually_92 : decode cX3_packUsually 92 = .ok (.aload_n 0, 1) := by decide +kernel
theorem dX3_packUsually_93 : decode cX3_packUsually 93 = .ok (.getfield 9, 3) := by decide +kernel
theorem dX3_packUsually_96 : decode cX3_packUsually 96 = .ok (.iconst 0, 1) := by decide +kernel
theorem dX3_packUsually_97 : decode cX3_packUsually 97 = .ok (.invokevirtual 54, 3) := by decide +kernel
theorem dX3_packUsually_100 : decode cX3_packUsually 100 = .ok (.aload_n 0, 1) := by decide +kernel
theorem dX3_packUsually_101 : decode cX3_packUsually 101 = .ok (.aload_n 0, 1) := by decide +kernel
theorem dX3_packUsually_102 : decode cX3_packUsually 102 = .ok (.getfield 15, 3) := by decide +kernel
theorem dX3_packUsually_105 : decode cX3_packUsually 105 = .ok (.invokevirtual 58, 3) := by decide +kernel
theorem dX3_packUsually_108 : decode cX3_packUsually 108 = .ok (.return_, 1) := by decide +kernel
theorem dX3_isBefore_0 : decode cX3_isBefore 0 = .ok (.aload_n 0, 1) := by decide +kernel
theorem dX3_isBefore_1 : decode cX3_isBefore 1 = .ok (.getfield 62, 3) := by decide +kernel
theorem dX3_isBefore_4 : decode cX3_isBefore 4 = .ok (.aload_n 1, 1) := by decide +kernel
theorem dX3_isBefore_5 : decode cX3_isBefore 5 = .ok (.getfield 62, 3) := by decide +kernel
theorem dX3_isBefore_8 : decode cX3_isBefore 8 = .ok (.if_icmp .gt 25, 3) := by decide +kernel
theorem dX3_isBefore_11 : decode cX3_isBefore 11 = .ok (.aload_n 0, 1) := by decide +kernel
theorem dX3_isBefore_12 : decode cX3_isBefore 12 = .ok (.getfield 62, 3) := by decide +kernel
theorem dX3_isBefore_15 : decode cX3_isBefore 15 = .ok (.aload_n 1, 1) := by decide +kernel
theorem dX3_isBefore_16 : decode cX3_isBefore 16 = .ok (.getfield 62, 3) := by decide +kernel
theorem dX3_isBefore_19 : decode cX3_isBefore 19 = .ok (.if_icmp .ne 18, 3) := by decide +kernel
theorem dX3_isBefore_22 : decode cX3_isBefore 22 = .ok (.aload_n 0, 1) := by decide +kernel
theorem dX3_isBefore_23 : decode cX3_isBefore 23 = .ok (.invokevirtual 67, 3) := by decide +kernel
theorem dX3_isBefore_26 : decode cX3_isBefore 26 = .ok (.aload_n 1, 1) := by decide +kernel
theorem dX3_isBefore_27 : decode cX3_isBefore 27 = .ok (.invokevirtual 67, 3) := by decide +kernel
theorem dX3_isBefore_30 : decode cX3_isBefore 30 = .ok (.if_icmp .le 7, 3) := by decide +kernel
theorem dX3_isBefore_33 : decode cX3_isBefore 33 = .ok (.iconst 1, 1) := by decide +kernel
theorem dX3_isBefore_34 : decode cX3_isBefore 34 = .ok (.goto 4, 3) := by decide +kernel
theorem dX3_isBefore_37 : decode cX3_isBefore 37 = .ok (.iconst 0, 1) := by decide +kernel
theorem dX3_isBefore_38 : decode cX3_isBefore 38 = .ok (.ireturn, 1) := by decide +kernel
theorem dX3_packByBest_0 : decode cX3_packByBest 0 = .ok (.aload_n 0, 1) := by decide +kernel
theorem dX3_packByBest_1 : decode cX3_packByBest 1 = .ok (.getfield 21, 3) := by decide +kernel
theorem dX3_packByBest_4 : decode cX3_packByBest 4 = .ok (.aload_n 1, 1) := by decide +kernel
theorem dX3_packByBest_5 : decode cX3_packByBest 5 = .ok (.invokevirtual 38, 3) := by decide +kernel
theorem dX3_packByBest_8 : decode cX3_packByBest 8 = .ok (.iconst 0, 1) := by decide +kernel
theorem dX3_packByBest_9 : decode cX3_packByBest 9 = .ok (.istore_n 2, 1) := by decide +kernel
theorem dX3_packByBest_10 : decode cX3_packByBest 10 = .ok (.iload_n 2, 1) := by decide +kernel
theorem dX3_packByBest_11 : decode cX3_packByBest 11 = .ok (.aload_n 0, 1) := by decide +kernel
theorem dX3_packByBest_12 : decode cX3_packByBest 12 = .ok (.getfield 21, 3) := by decide +kernel
theorem dX3_packByBest_15 : decode cX3_packByBest 15 = .ok (.getfield 42, 3) := by decide +kernel
theorem dX3_packByBest_18 : decode cX3_packByBest 18 = .ok (.if_icmp .ge 16, 3) := by decide +kernel
theorem dX3_packByBest_21 : decode cX3_packByBest 21 = .ok (.aload_n 0, 1) := by decide +kernel
theorem dX3_packByBest_22 : decode cX3_packByBest 22 = .ok (.getfield 25, 3) := by decide +kernel
theorem dX3_packByBest_25 : decode cX3_packByBest 25 = .ok (.iload_n 2, 1) := by decide +kernel
theorem dX3_packByBest_26 : decode cX3_packByBest 26 = .ok (.iload_n 2, 1) := by decide +kernel
theorem dX3_packByBest_27 : decode cX3_packByBest 27 = .ok (.iastore, 1) := by decide +kernel
theorem dX3_packByBest_28 : decode cX3_packByBest 28 = .ok (.iinc 2 1, 3) := by decide +kernel
theorem dX3_packByBest_31 : decode cX3_packByBest 31 = .ok (.goto (-21), 3) := by decide +kernel
theorem dX3_packByBest_34 : decode cX3_packByBest 34 = .ok (.iconst 0, 1) := by decide +kernel
theorem dX3_packByBest_35 : decode cX3_packByBest 35 = .ok (.istore_n 2, 1) := by decide +kernel
theorem dX3_packByBest_36 : decode cX3_packByBest 36 = .ok (.iconst 0, 1) := by decide +kernel
theorem dX3_packByBest_37 : decode cX3_packByBest 37 = .ok (.istore_n 3, 1) := by decide +kernel
theorem dX3_packByBest_38 : decode cX3_packByBest 38 = .ok (.iload_n 3, 1) := by decide +kernel
theorem dX3_packByBest_39 : decode cX3_packByBest 39 = .ok (.bipush 120, 2) := by decide +kernel
theorem dX3_packByBest_41 : decode cX3_packByBest 41 = .ok (.if_icmp .ge 75, 3) := by decide +kernel
theorem dX3_packByBest_44 : decode cX3_packByBest 44 = .ok (.iload_n 2, 1) := by decide +kernel
theorem dX3_packByBest_45 : decode cX3_packByBest 45 = .ok (.ifCond .lt 71, 3) := by decide +kernel
theorem dX3_packByBest_48 : decode cX3_packByBest 48 = .ok (.aload_n 0, 1) := by decide +kernel
theorem dX3_packByBest_49 : decode cX3_packByBest 49 = .ok (.aload_n 0, 1) := by decide +kernel
theorem dX3_packByBest_50 : decode cX3_packByBest 50 = .ok (.getfield 25, 3) := by decide +kernel
theorem dX3_packByBest_53 : decode cX3_packByBest 53 = .ok (.iload_n 2, 1) := by decide +kernel
theorem dX3_packByBest_54 : decode cX3_packByBest 54 = .ok (.invokevirtual 54, 3) := by decide +kernel
theorem dX3_packByBest_57 : decode cX3_packByBest 57 = .ok (.aload_n 0, 1) := by decide +kernel
theorem dX3_packByBest_58 : decode cX3_packByBest 58 = .ok (.aload_n 0, 1) := by decide +kernel
theorem dX3_packByBest_59 : decode cX3_packByBest 59 = .ok (.getfield 28, 3) := by decide +kernel
theorem dX3_packByBest_62 : decode cX3_packByBest 62 = .ok (.invokevirtual 58, 3) := by decide +kernel
theorem dX3_packByBest_65 : decode cX3_packByBest 65 = .ok (.iload_n 3, 1) := by decide +kernel
theorem dX3_packByBest_66 : decode cX3_packByBest 66 = .ok (.ifCond .eq 10, 3) := by decide +kernel
theorem dX3_packByBest_69 : decode cX3_packByBest 69 = .ok (.aload_n 0, 1) := by decide +kernel
theorem dX3_packByBest_70 : decode cX3_packByBest 70 = .ok (.invokevirtual 71, 3) := by decide +kernel
theorem dX3_packByBest_73 : decode cX3_packByBest 73 = .ok (.ifCond .eq 32, 3) := by decide +kernel
theorem dX3_packByBest_76 : decode cX3_packByBest 76 = .ok (.aload_n 0, 1) := by decide +kernel
theorem dX3_packByBest_77 : decode cX3_packByBest 77 = .ok (.getfield 25, 3) := by decide +kernel
theorem dX3_packByBest_80 : decode cX3_packByBest 80 = .ok (.iconst 0, 1) := by decide +kernel
theorem dX3_packByBest_81 : decode cX3_packByBest 81 = .ok (.aload_n 0, 1) := by decide +kernel
theorem dX3_packByBest_82 : decode cX3_packByBest 82 = .ok (.getfield 9, 3) := by decide +kernel
theorem dX3_packByBest_85 : decode cX3_packByBest 85 = .ok (.iconst 0, 1) := by decide +kernel
theorem dX3_packByBest_86 : decode cX3_packByBest 86 = .ok (.bipush 12, 2) := by decide +kernel
theorem dX3_packByBest_88 : decode cX3_packByBest 88 = .ok (.invokestatic 75, 3) := by decide +kernel
theorem dX3_packByBest_91 : decode cX3_packByBest 91 = .ok (.aload_n 0, 1) := by decide +kernel
theorem dX3_packByBest_92 : decode cX3_packByBest 92 = .ok (.getfield 28, 3) := by decide +kernel
theorem dX3_packByBest_95 : decode cX3_packByBest 95 = .ok (.iconst 0, 1) := by decide +kernel
theorem dX3_packByBest_96 : decode cX3_packByBest 96 = .ok (.aload_n 0, 1) := by decide +kernel
theorem dX3_packByBest_97 : decode cX3_packByBest 97 = .ok (.getfield 15, 3) := by decide +kernel
theorem dX3_packByBest_100 : decode cX3_packByBest 100 = .ok (.iconst 0, 1) := by decide +kernel
theorem dX3_packByBest_101 : decode cX3_packByBest 101 = .ok (.iconst 4, 1) := by decide +kernel
theorem dX3_packByBest_102 : decode cX3_packByBest 102 = .ok (.invokestatic 75, 3) := by decide +kernel
theorem dX3_packByBest_105 : decode cX3_packByBest 105 = .ok (.aload_n 0, 1) := by decide +kernel
theorem dX3_packByBest_106 : decode cX3_packByBest 106 = .ok (.invokevirtual 81, 3) := by decide +kernel
theorem dX3_packByBest_109 : decode cX3_packByBest 109 = .ok (.istore_n 2, 1) := by decide +kernel
theorem dX3_packByBest_110 : decode cX3_packByBest 110 = .ok (.iinc 3 1, 3) := by decide +kernel
theorem dX3_packByBest_113 : decode cX3_packByBest 113 = .ok (.goto (-75), 3) := by decide +kernel
theorem dX3_packByBest_116 : decode cX3_packByBest 116 = .ok (.aload_n 0, 1) := by decide +kernel
theorem dX3_packByBest_117 : decode cX3_packByBest 117 = .ok (.aload_n 0, 1) := by decide +kernel
theorem dX3_packByBest_118 : decode cX3_packByBest 118 = .ok (.getfield 9, 3) := by decide +kernel
theorem dX3_packByBest_121 : decode cX3_packByBest 121 = .ok (.iconst 0, 1) := by decide +kernel
theorem dX3_packByBest_122 : decode cX3_packByBest 122 = .ok (.invokevirtual 54, 3) := by decide +kernel
theorem dX3_packByBest_125 : decode cX3_packByBest 125 = .ok (.return_, 1) := by decide +kernel
theorem dX3_letDownFrom_0 : decode cX3_letDownFrom 0 = .ok (.iload_n 2, 1) := by decide +kernel
theorem dX3_letDownFrom_1 : decode cX3_letDownFrom 1 = .ok (.istore_n 3, 1) := by decide +kernel
theorem dX3_letDownFrom_2 : decode cX3_letDownFrom 2 = .ok (.iload_n 3, 1) := by decide +kernel
theorem dX3_letDownFrom_3 : decode cX3_letDownFrom 3 = .ok (.aload_n 0, 1) := by decide +kernel
theorem dX3_letDownFrom_4 : decode cX3_letDownFrom 4 = .ok (.getfield 21, 3) := by decide +kernel
theorem dX3_letDownFrom_7 : decode cX3_letDownFrom 7 = .ok (.getfield 42, 3) := by decide +kernel
theorem dX3_letDownFrom_10 : decode cX3_letDownFrom 10 = .ok (.if_icmp .ge 23, 3) := by decide +kernel
theorem dX3_letDownFrom_13 : decode cX3_letDownFrom 13 = .ok (.aload_n 0, 1) := by decide +kernel
theorem dX3_letDownFrom_14 : decode cX3_letDownFrom 14 = .ok (.getfield 21, 3) := by decide +kernel
theorem dX3_letDownFrom_17 : decode cX3_letDownFrom 17 = .ok (.getfield 46, 3) := by decide +kernel
theorem dX3_letDownFrom_20 : decode cX3_letDownFrom 20 = .ok (.aload_n 1, 1) := by decide +kernel
theorem dX3_letDownFrom_21 : decode cX3_letDownFrom 21 = .ok (.iload_n 3, 1) := by decide +kernel
theorem dX3_letDownFrom_22 : decode cX3_letDownFrom 22 = .ok (.iaload, 1) := by decide +kernel
theorem dX3_letDownFrom_23 : decode cX3_letDownFrom 23 = .ok (.aaload, 1) := by decide +kernel
theorem dX3_letDownFrom_24 : decode cX3_letDownFrom 24 = .ok (.invokevirtual 84, 3) := by decide +kernel
theorem dX3_letDownFrom_27 : decode cX3_letDownFrom 27 = .ok (.iinc 3 1, 3) := by decide +kernel
theorem dX3_letDownFrom_30 : decode cX3_letDownFrom 30 = .ok (.goto (-28), 3) := by decide +kernel
theorem dX3_letDownFrom_33 : decode cX3_letDownFrom 33 = .ok (.aload_n 0, 1) := by decide +kernel
theorem dX3_letDownFrom_34 : decode cX3_letDownFrom 34 = .ok (.getfield 34, 3) := by decide +kernel
theorem dX3_letDownFrom_37 : decode cX3_letDownFrom 37 = .ok (.aload_n 0, 1) := by decide +kernel
theorem dX3_letDownFrom_38 : decode cX3_letDownFrom 38 = .ok (.getfield 21, 3) := by decide +kernel
theorem dX3_letDownFrom_41 : decode cX3_letDownFrom 41 = .ok (.invokevirtual 87, 3) := by decide +kernel
theorem dX3_letDownFrom_44 : decode cX3_letDownFrom 44 = .ok (.iload_n 2, 1) := by decide +kernel
theorem dX3_letDownFrom_45 : decode cX3_letDownFrom 45 = .ok (.istore_n 3, 1) := by decide +kernel
theorem dX3_letDownFrom_46 : decode cX3_letDownFrom 46 = .ok (.iload_n 3, 1) := by decide +kernel
theorem dX3_letDownFrom_47 : decode cX3_letDownFrom 47 = .ok (.aload_n 0, 1) := by decide +kernel
theorem dX3_letDownFrom_48 : decode cX3_letDownFrom 48 = .ok (.getfield 21, 3) := by decide +kernel
theorem dX3_letDownFrom_51 : decode cX3_letDownFrom 51 = .ok (.getfield 42, 3) := by decide +kernel
theorem dX3_letDownFrom_54 : decode cX3_letDownFrom 54 = .ok (.if_icmp .ge 99, 3) := by decide +kernel
theorem dX3_letDownFrom_57 : decode cX3_letDownFrom 57 = .ok (.aload_n 0, 1) := by decide +kernel
theorem dX3_letDownFrom_58 : decode cX3_letDownFrom 58 = .ok (.getfield 21, 3) := by decide +kernel
theorem dX3_letDownFrom_61 : decode cX3_letDownFrom 61 = .ok (.getfield 46, 3) := by decide +kernel
theorem dX3_letDownFrom_64 : decode cX3_letDownFrom 64 = .ok (.aload_n 1, 1) := by decide +kernel
theorem dX3_letDownFrom_65 : decode cX3_letDownFrom 65 = .ok (.iload_n 3, 1) := by decide +kernel
theorem dX3_letDownFrom_66 : decode cX3_letDownFrom 66 = .ok (.iaload, 1) := by decide +kernel
theorem dX3_letDownFrom_67 : decode cX3_letDownFrom 67 = .ok (.aaload, 1) := by decide +kernel
theorem dX3_letDownFrom_68 : decode cX3_letDownFrom 68 = .ok (.astore 4, 2) := by decide +kernel
theorem dX3_letDownFrom_70 : decode cX3_letDownFrom 70 = .ok (.aload_n 0, 1) := by decide +kernel
theorem dX3_letDownFrom_71 : decode cX3_letDownFrom 71 = .ok (.getfield 34, 3) := by decide +kernel
theorem dX3_letDownFrom_74 : decode cX3_letDownFrom 74 = .ok (.aload_n 0, 1) := by decide +kernel
theorem dX3_letDownFrom_75 : decode cX3_letDownFrom 75 = .ok (.getfield 21, 3) := by decide +kernel
theorem dX3_letDownFrom_78 : decode cX3_letDownFrom 78 = .ok (.aload 4, 2) := by decide +kernel
theorem dX3_letDownFrom_80 : decode cX3_letDownFrom 80 = .ok (.iconst 1, 1) := by decide +kernel
theorem dX3_letDownFrom_81 : decode cX3_letDownFrom 81 = .ok (.invokevirtual 90, 3) := by decide +kernel
theorem dX3_letDownFrom_84 : decode cX3_letDownFrom 84 = .ok (.aload_n 0, 1) := by decide +kernel
theorem dX3_letDownFrom_85 : decode cX3_letDownFrom 85 = .ok (.getfield 34, 3) := by decide +kernel
theorem dX3_letDownFrom_88 : decode cX3_letDownFrom 88 = .ok (.getfield 94, 3) := by decide +kernel
theorem dX3_letDownFrom_91 : decode cX3_letDownFrom 91 = .ok (.ifCond .le 56, 3) := by decide +kernel
theorem dX3_letDownFrom_94 : decode cX3_letDownFrom 94 = .ok (.aload 4, 2) := by decide +kernel
theorem dX3_letDownFrom_96 : decode cX3_letDownFrom 96 = .ok (.aload_n 0, 1) := by decide +kernel
theorem dX3_letDownFrom_97 : decode cX3_letDownFrom 97 = .ok (.getfield 34, 3) := by decide +kernel
theorem dX3_letDownFrom_100 : decode cX3_letDownFrom 100 = .ok (.getfield 97, 3) := by decide +kernel
theorem dX3_letDownFrom_103 : decode cX3_letDownFrom 103 = .ok (.aload_n 0, 1) := by decide +kernel
theorem dX3_letDownFrom_104 : decode cX3_letDownFrom 104 = .ok (.getfield 34, 3) := by decide +kernel
theorem dX3_letDownFrom_107 : decode cX3_letDownFrom 107 = .ok (.getfield 100, 3) := by decide +kernel
theorem dX3_letDownFrom_110 : decode cX3_letDownFrom 110 = .ok (.aload_n 0, 1) := by decide +kernel
theorem dX3_letDownFrom_111 : decode cX3_letDownFrom 111 = .ok (.getfield 34, 3) := by decide +kernel
theorem dX3_letDownFrom_114 : decode cX3_letDownFrom 114 = .ok (.getfield 103, 3) := by decide +kernel
theorem dX3_letDownFrom_117 : decode cX3_letDownFrom 117 = .ok (.aload_n 0, 1) := by decide +kernel
theorem dX3_letDownFrom_118 : decode cX3_letDownFrom 118 = .ok (.getfield 34, 3) := by decide +kernel
theorem dX3_letDownFrom_121 : decode cX3_letDownFrom 121 = .ok (.getfield 107, 3) := by decide +kernel
theorem dX3_letDownFrom_124 : decode cX3_letDownFrom 124 = .ok (.aload_n 0, 1) := by decide +kernel
theorem dX3_letDownFrom_125 : decode cX3_letDownFrom 125 = .ok (.getfield 34, 3) := by decide +kernel
theorem dX3_letDownFrom_128 : decode cX3_letDownFrom 128 = .ok (.getfield 110, 3) := by decide +kernel
theorem dX3_letDownFrom_131 : decode cX3_letDownFrom 131 = .ok (.invokevirtual 113, 3) := by decide +kernel
theorem dX3_letDownFrom_134 : decode cX3_letDownFrom 134 = .ok (.aload_n 0, 1) := by decide +kernel
theorem dX3_letDownFrom_135 : decode cX3_letDownFrom 135 = .ok (.getfield 34, 3) := by decide +kernel
theorem dX3_letDownFrom_138 : decode cX3_letDownFrom 138 = .ok (.aload_n 0, 1) := by decide +kernel
theorem dX3_letDownFrom_139 : decode cX3_letDownFrom 139 = .ok (.getfield 21, 3) := by decide +kernel
theorem dX3_letDownFrom_142 : decode cX3_letDownFrom 142 = .ok (.aload 4, 2) := by decide +kernel
theorem dX3_letDownFrom_144 : decode cX3_letDownFrom 144 = .ok (.invokevirtual 117, 3) := by decide +kernel
theorem dX3_letDownFrom_147 : decode cX3_letDownFrom 147 = .ok (.iinc 3 1, 3) := by decide +kernel
theorem dX3_letDownFrom_150 : decode cX3_letDownFrom 150 = .ok (.goto (-104), 3) := by decide +kernel
theorem dX3_letDownFrom_153 : decode cX3_letDownFrom 153 = .ok (.return_, 1) := by decide +kernel
theorem dX3_measure_0 : decode cX3_measure 0 = .ok (.aload_n 1, 1) := by decide +kernel
theorem dX3_measure_1 : decode cX3_measure 1 = .ok (.iconst 0, 1) := by decide +kernel
theorem dX3_measure_2 : decode cX3_measure 2 = .ok (.aload_n 0, 1) := by decide +kernel
theorem dX3_measure_3 : decode cX3_measure 3 = .ok (.getfield 21, 3) := by decide +kernel
theorem dX3_measure_6 : decode cX3_measure 6 = .ok (.getfield 42, 3) := by decide +kernel
theorem dX3_measure_9 : decode cX3_measure 9 = .ok (.aload_n 0, 1) := by decide +kernel
theorem dX3_measure_10 : decode cX3_measure 10 = .ok (.getfield 21, 3) := by decide +kernel
theorem dX3_measure_13 : decode cX3_measure 13 = .ok (.invokevirtual 121, 3) := by decide +kernel
theorem dX3_measure_16 : decode cX3_measure 16 = .ok (.invokestatic 124, 3) := by decide +kernel
theorem dX3_measure_19 : decode cX3_measure 19 = .ok (.isub, 1) := by decide +kernel
theorem dX3_measure_20 : decode cX3_measure 20 = .ok (.iastore, 1) := by decide +kernel
theorem dX3_measure_21 : decode cX3_measure 21 = .ok (.aload_n 1, 1) := by decide +kernel
theorem dX3_measure_22 : decode cX3_measure 22 = .ok (.iconst 1, 1) := by decide +kernel
theorem dX3_measure_23 : decode cX3_measure 23 = .ok (.aload_n 0, 1) := by decide +kernel
theorem dX3_measure_24 : decode cX3_measure 24 = .ok (.getfield 21, 3) := by decide +kernel
theorem dX3_measure_27 : decode cX3_measure 27 = .ok (.invokevirtual 130, 3) := by decide +kernel
theorem dX3_measure_30 : decode cX3_measure 30 = .ok (.iastore, 1) := by decide +kernel
theorem dX3_measure_31 : decode cX3_measure 31 = .ok (.aload_n 1, 1) := by decide +kernel
theorem dX3_measure_32 : decode cX3_measure 32 = .ok (.iconst 2, 1) := by decide +kernel
theorem dX3_measure_33 : decode cX3_measure 33 = .ok (.aload_n 0, 1) := by decide +kernel
theorem dX3_measure_34 : decode cX3_measure 34 = .ok (.getfield 21, 3) := by decide +kernel
theorem dX3_measure_37 : decode cX3_measure 37 = .ok (.invokevirtual 133, 3) := by decide +kernel
theorem dX3_measure_40 : decode cX3_measure 40 = .ok (.iastore, 1) := by decide +kernel
theorem dX3_measure_41 : decode cX3_measure 41 = .ok (.aload_n 1, 1) := by decide +kernel
theorem dX3_measure_42 : decode cX3_measure 42 = .ok (.iconst 3, 1) := by decide +kernel
theorem dX3_measure_43 : decode cX3_measure 43 = .ok (.aload_n 0, 1) := by decide +kernel
theorem dX3_measure_44 : decode cX3_measure 44 = .ok (.getfield 21, 3) := by decide +kernel
theorem dX3_measure_47 : decode cX3_measure 47 = .ok (.invokevirtual 136, 3) := by decide +kernel
theorem dX3_measure_50 : decode cX3_measure 50 = .ok (.iastore, 1) := by decide +kernel
theorem dX3_measure_51 : decode cX3_measure 51 = .ok (.return_, 1) := by decide +kernel
theorem dX3_isTriedBetter_0 : decode cX3_isTriedBetter 0 = .ok (.iconst 0, 1) := by decide +kernel
theorem dX3_isTriedBetter_1 : decode cX3_isTriedBetter 1 = .ok (.istore_n 1, 1) := by decide +kernel
theorem dX3_isTriedBetter_2 : decode cX3_isTriedBetter 2 = .ok (.iload_n 1, 1) := by decide +kernel
theorem dX3_isTriedBetter_3 : decode cX3_isTriedBetter 3 = .ok (.iconst 4, 1) := by decide +kernel
theorem dX3_isTriedBetter_4 : decode cX3_isTriedBetter 4 = .ok (.if_icmp .ge 45, 3) := by decide +kernel
theorem dX3_isTriedBetter_7 : decode cX3_isTriedBetter 7 = .ok (.aload_n 0, 1) := by decide +kernel
theorem dX3_isTriedBetter_8 : decode cX3_isTriedBetter 8 = .ok (.getfield 28, 3) := by decide +kernel
theorem dX3_isTriedBetter_11 : decode cX3_isTriedBetter 11 = .ok (.iload_n 1, 1) := by decide +kernel
theorem dX3_isTriedBetter_12 : decode cX3_isTriedBetter 12 = .ok (.iaload, 1) := by decide +kernel
theorem dX3_isTriedBetter_13 : decode cX3_isTriedBetter 13 = .ok (.aload_n 0, 1) := by decide +kernel
theorem dX3_isTriedBetter_14 : decode cX3_isTriedBetter 14 = .ok (.getfield 15, 3) := by decide +kernel
theorem dX3_isTriedBetter_17 : decode cX3_isTriedBetter 17 = .ok (.iload_n 1, 1) := by decide +kernel
theorem dX3_isTriedBetter_18 : decode cX3_isTriedBetter 18 = .ok (.iaload, 1) := by decide +kernel
theorem dX3_isTriedBetter_19 : decode cX3_isTriedBetter 19 = .ok (.if_icmp .eq 24, 3) := by decide +kernel
theorem dX3_isTriedBetter_22 : decode cX3_isTriedBetter 22 = .ok (.aload_n 0, 1) := by decide +kernel
theorem dX3_isTriedBetter_23 : decode cX3_isTriedBetter 23 = .ok (.getfield 28, 3) := by decide +kernel
theorem dX3_isTriedBetter_26 : decode cX3_isTriedBetter 26 = .ok (.iload_n 1, 1) := by decide +kernel
theorem dX3_isTriedBetter_27 : decode cX3_isTriedBetter 27 = .ok (.iaload, 1) := by decide +kernel
theorem dX3_isTriedBetter_28 : decode cX3_isTriedBetter 28 = .ok (.aload_n 0, 1) := by decide +kernel
theorem dX3_isTriedBetter_29 : decode cX3_isTriedBetter 29 = .ok (.getfield 15, 3) := by decide +kernel
theorem dX3_isTriedBetter_32 : decode cX3_isTriedBetter 32 = .ok (.iload_n 1, 1) := by decide +kernel
theorem dX3_isTriedBetter_33 : decode cX3_isTriedBetter 33 = .ok (.iaload, 1) := by decide +kernel
theorem dX3_isTriedBetter_34 : decode cX3_isTriedBetter 34 = .ok (.if_icmp .ge 7, 3) := by decide +kernel
theorem dX3_isTriedBetter_37 : decode cX3_isTriedBetter 37 = .ok (.iconst 1, 1) := by decide +kernel
theorem dX3_isTriedBetter_38 : decode cX3_isTriedBetter 38 = .ok (.goto 4, 3) := by decide +kernel
theorem dX3_isTriedBetter_41 : decode cX3_isTriedBetter 41 = .ok (.iconst 0, 1) := by decide +kernel
theorem dX3_isTriedBetter_42 : decode cX3_isTriedBetter 42 = .ok (.ireturn, 1) := by decide +kernel
theorem dX3_isTriedBetter_43 : decode cX3_isTriedBetter 43 = .ok (.iinc 1 1, 3) := by decide +kernel
theorem dX3_isTriedBetter_46 : decode cX3_isTriedBetter 46 = .ok (.goto (-44), 3) := by decide +kernel
theorem dX3_isTriedBetter_49 : decode cX3_isTriedBetter 49 = .ok (.iconst 0, 1) := by decide +kernel
theorem dX3_isTriedBetter_50 : decode cX3_isTriedBetter 50 = .ok (.ireturn, 1) := by decide +kernel
theorem dX3_stepToNextOrder_0 : decode cX3_stepToNextOrder 0 = .ok (.aload_n 0, 1) := by decide +kernel
theorem dX3_stepToNextOrder_1 : decode cX3_stepToNextOrder 1 = .ok (.getfield 21, 3) := by decide +kernel
theorem dX3_stepToNextOrder_4 : decode cX3_stepToNextOrder 4 = .ok (.getfield 42, 3) := by decide +kernel
theorem dX3_stepToNextOrder_7 : decode cX3_stepToNextOrder 7 = .ok (.iconst 2, 1) := by decide +kernel
theorem dX3_stepToNextOrder_8 : decode cX3_stepToNextOrder 8 = .ok (.isub, 1) := by decide +kernel
theorem dX3_stepToNextOrder_9 : decode cX3_stepToNextOrder 9 = .ok (.istore_n 1, 1) := by decide +kernel
theorem dX3_stepToNextOrder_10 : decode cX3_stepToNextOrder 10 = .ok (.iload_n 1, 1) := by decide +kernel
theorem dX3_stepToNextOrder_11 : decode cX3_stepToNextOrder 11 = .ok (.ifCond .lt 26, 3) := by decide +kernel
theorem dX3_stepToNextOrder_14 : decode cX3_stepToNextOrder 14 = .ok (.aload_n 0, 1) := by decide +kernel
theorem dX3_stepToNextOrder_15 : decode cX3_stepToNextOrder 15 = .ok (.getfield 25, 3) := by decide +kernel
theorem dX3_stepToNextOrder_18 : decode cX3_stepToNextOrder 18 = .ok (.iload_n 1, 1) := by decide +kernel
theorem dX3_stepToNextOrder_19 : decode cX3_stepToNextOrder 19 = .ok (.iaload, 1) := by decide +kernel
theorem dX3_stepToNextOrder_20 : decode cX3_stepToNextOrder 20 = .ok (.aload_n 0, 1) := by decide +kernel
theorem dX3_stepToNextOrder_21 : decode cX3_stepToNextOrder 21 = .ok (.getfield 25, 3) := by decide +kernel
theorem dX3_stepToNextOrder_24 : decode cX3_stepToNextOrder 24 = .ok (.iload_n 1, 1) := by decide +kernel
theorem dX3_stepToNextOrder_25 : decode cX3_stepToNextOrder 25 = .ok (.iconst 1, 1) := by decide +kernel
theorem dX3_stepToNextOrder_26 : decode cX3_stepToNextOrder 26 = .ok (.iadd, 1) := by decide +kernel
theorem dX3_stepToNextOrder_27 : decode cX3_stepToNextOrder 27 = .ok (.iaload, 1) := by decide +kernel
theorem dX3_stepToNextOrder_28 : decode cX3_stepToNextOrder 28 = .ok (.if_icmp .le 9, 3) := by decide +kernel
theorem dX3_stepToNextOrder_31 : decode cX3_stepToNextOrder 31 = .ok (.iinc 1 (-1), 3) := by decide +kernel
theorem dX3_stepToNextOrder_34 : decode cX3_stepToNextOrder 34 = .ok (.goto (-24), 3) := by decide +kernel
theorem dX3_stepToNextOrder_37 : decode cX3_stepToNextOrder 37 = .ok (.iload_n 1, 1) := by decide +kernel
theorem dX3_stepToNextOrder_38 : decode cX3_stepToNextOrder 38 = .ok (.ifCond .ge 6, 3) := by decide +kernel
theorem dX3_stepToNextOrder_41 : decode cX3_stepToNextOrder 41 = .ok (.bipush (-9), 2) := by decide +kernel
theorem dX3_stepToNextOrder_43 : decode cX3_stepToNextOrder 43 = .ok (.ireturn, 1) := by decide +kernel
theorem dX3_stepToNextOrder_44 : decode cX3_stepToNextOrder 44 = .ok (.aload_n 0, 1) := by decide +kernel
theorem dX3_stepToNextOrder_45 : decode cX3_stepToNextOrder 45 = .ok (.getfield 21, 3) := by decide +kernel
theorem dX3_stepToNextOrder_48 : decode cX3_stepToNextOrder 48 = .ok (.getfield 42, 3) := by decide +kernel
theorem dX3_stepToNextOrder_51 : decode cX3_stepToNextOrder 51 = .ok (.iconst 1, 1) := by decide +kernel
theorem dX3_stepToNextOrder_52 : decode cX3_stepToNextOrder 52 = .ok (.isub, 1) := by decide +kernel
theorem dX3_stepToNextOrder_53 : decode cX3_stepToNextOrder 53 = .ok (.istore_n 2, 1) := by decide +kernel
theorem dX3_stepToNextOrder_54 : decode cX3_stepToNextOrder 54 = .ok (.iload_n 2, 1) := by decide +kernel
theorem dX3_stepToNextOrder_55 : decode cX3_stepToNextOrder 55 = .ok (.iload_n 1, 1) := by decide +kernel
theorem dX3_stepToNextOrder_56 : decode cX3_stepToNextOrder 56 = .ok (.if_icmp .le 24, 3) := by decide +kernel
theorem dX3_stepToNextOrder_59 : decode cX3_stepToNextOrder 59 = .ok (.aload_n 0, 1) := by decide +kernel
theorem dX3_stepToNextOrder_60 : decode cX3_stepToNextOrder 60 = .ok (.getfield 25, 3) := by decide +kernel
theorem dX3_stepToNextOrder_63 : decode cX3_stepToNextOrder 63 = .ok (.iload_n 2, 1) := by decide +kernel
theorem dX3_stepToNextOrder_64 : decode cX3_stepToNextOrder 64 = .ok (.iaload, 1) := by decide +kernel
theorem dX3_stepToNextOrder_65 : decode cX3_stepToNextOrder 65 = .ok (.aload_n 0, 1) := by decide +kernel
theorem dX3_stepToNextOrder_66 : decode cX3_stepToNextOrder 66 = .ok (.getfield 25, 3) := by decide +kernel
theorem dX3_stepToNextOrder_69 : decode cX3_stepToNextOrder 69 = .ok (.iload_n 1, 1) := by decide +kernel
theorem dX3_stepToNextOrder_70 : decode cX3_stepToNextOrder 70 = .ok (.iaload, 1) := by decide +kernel
theorem dX3_stepToNextOrder_71 : decode cX3_stepToNextOrder 71 = .ok (.if_icmp .ge 9, 3) := by decide +kernel
theorem dX3_stepToNextOrder_74 : decode cX3_stepToNextOrder 74 = .ok (.iinc 2 (-1), 3) := by decide +kernel
theorem dX3_stepToNextOrder_77 : decode cX3_stepToNextOrder 77 = .ok (.goto (-23), 3) := by decide +kernel
theorem dX3_stepToNextOrder_80 : decode cX3_stepToNextOrder 80 = .ok (.aload_n 0, 1) := by decide +kernel
theorem dX3_stepToNextOrder_81 : decode cX3_stepToNextOrder 81 = .ok (.iload_n 1, 1) := by decide +kernel
theorem dX3_stepToNextOrder_82 : decode cX3_stepToNextOrder 82 = .ok (.iload_n 2, 1) := by decide +kernel
theorem dX3_stepToNextOrder_83 : decode cX3_stepToNextOrder 83 = .ok (.invokevirtual 139, 3) := by decide +kernel
theorem dX3_stepToNextOrder_86 : decode cX3_stepToNextOrder 86 = .ok (.iload_n 1, 1) := by decide +kernel
theorem dX3_stepToNextOrder_87 : decode cX3_stepToNextOrder 87 = .ok (.iconst 1, 1) := by decide +kernel
theorem dX3_stepToNextOrder_88 : decode cX3_stepToNextOrder 88 = .ok (.iadd, 1) := by decide +kernel
theorem dX3_stepToNextOrder_89 : decode cX3_stepToNextOrder 89 = .ok (.istore_n 3, 1) := by decide +kernel
theorem dX3_stepToNextOrder_90 : decode cX3_stepToNextOrder 90 = .ok (.aload_n 0, 1) := by decide +kernel
theorem dX3_stepToNextOrder_91 : decode cX3_stepToNextOrder 91 = .ok (.getfield 21, 3) := by decide +kernel
theorem dX3_stepToNextOrder_94 : decode cX3_stepToNextOrder 94 = .ok (.getfield 42, 3) := by decide +kernel
theorem dX3_stepToNextOrder_97 : decode cX3_stepToNextOrder 97 = .ok (.iconst 1, 1) := by decide +kernel
theorem dX3_stepToNextOrder_98 : decode cX3_stepToNextOrder 98 = .ok (.isub, 1) := by decide +kernel
theorem dX3_stepToNextOrder_99 : decode cX3_stepToNextOrder 99 = .ok (.istore 4, 2) := by decide +kernel
theorem dX3_stepToNextOrder_101 : decode cX3_stepToNextOrder 101 = .ok (.iload_n 3, 1) := by decide +kernel
theorem dX3_stepToNextOrder_102 : decode cX3_stepToNextOrder 102 = .ok (.iload 4, 2) := by decide +kernel
theorem dX3_stepToNextOrder_104 : decode cX3_stepToNextOrder 104 = .ok (.if_icmp .ge 19, 3) := by decide +kernel
theorem dX3_stepToNextOrder_107 : decode cX3_stepToNextOrder 107 = .ok (.aload_n 0, 1) := by decide +kernel
theorem dX3_stepToNextOrder_108 : decode cX3_stepToNextOrder 108 = .ok (.iload_n 3, 1) := by decide +kernel
theorem dX3_stepToNextOrder_109 : decode cX3_stepToNextOrder 109 = .ok (.iload 4, 2) := by decide +kernel
theorem dX3_stepToNextOrder_111 : decode cX3_stepToNextOrder 111 = .ok (.invokevirtual 139, 3) := by decide +kernel
theorem dX3_stepToNextOrder_114 : decode cX3_stepToNextOrder 114 = .ok (.iinc 3 1, 3) := by decide +kernel
theorem dX3_stepToNextOrder_117 : decode cX3_stepToNextOrder 117 = .ok (.iinc 4 (-1), 3) := by decide +kernel
theorem dX3_stepToNextOrder_120 : decode cX3_stepToNextOrder 120 = .ok (.goto (-19), 3) := by decide +kernel
theorem dX3_stepToNextOrder_123 : decode cX3_stepToNextOrder 123 = .ok (.iload_n 1, 1) := by decide +kernel
theorem dX3_stepToNextOrder_124 : decode cX3_stepToNextOrder 124 = .ok (.ireturn, 1) := by decide +kernel
theorem dX3_swap_0 : decode cX3_swap 0 = .ok (.aload_n 0, 1) := by decide +kernel
theorem dX3_swap_1 : decode cX3_swap 1 = .ok (.getfield 25, 3) := by decide +kernel
theorem dX3_swap_4 : decode cX3_swap 4 = .ok (.iload_n 1, 1) := by decide +kernel
theorem dX3_swap_5 : decode cX3_swap 5 = .ok (.iaload, 1) := by decide +kernel
theorem dX3_swap_6 : decode cX3_swap 6 = .ok (.istore_n 3, 1) := by decide +kernel
theorem dX3_swap_7 : decode cX3_swap 7 = .ok (.aload_n 0, 1) := by decide +kernel
theorem dX3_swap_8 : decode cX3_swap 8 = .ok (.getfield 25, 3) := by decide +kernel
theorem dX3_swap_11 : decode cX3_swap 11 = .ok (.iload_n 1, 1) := by decide +kernel
theorem dX3_swap_12 : decode cX3_swap 12 = .ok (.aload_n 0, 1) := by decide +kernel
theorem dX3_swap_13 : decode cX3_swap 13 = .ok (.getfield 25, 3) := by decide +kernel
theorem dX3_swap_16 : decode cX3_swap 16 = .ok (.iload_n 2, 1) := by decide +kernel
theorem dX3_swap_17 : decode cX3_swap 17 = .ok (.iaload, 1) := by decide +kernel
theorem dX3_swap_18 : decode cX3_swap 18 = .ok (.iastore, 1) := by decide +kernel
theorem dX3_swap_19 : decode cX3_swap 19 = .ok (.aload_n 0, 1) := by decide +kernel
theorem dX3_swap_20 : decode cX3_swap 20 = .ok (.getfield 25, 3) := by decide +kernel
theorem dX3_swap_23 : decode cX3_swap 23 = .ok (.iload_n 2, 1) := by decide +kernel
theorem dX3_swap_24 : decode cX3_swap 24 = .ok (.iload_n 3, 1) := by decide +kernel
theorem dX3_swap_25 : decode cX3_swap 25 = .ok (.iastore, 1) := by decide +kernel
theorem dX3_swap_26 : decode cX3_swap 26 = .ok (.return_, 1) := by decide +kernel
theorem dX4_init_0 : decode cX4_init 0 = .ok (.aload_n 0, 1) := by decide +kernel
theorem dX4_init_1 : decode cX4_init 1 = .ok (.invokespecial 3, 3) := by decide +kernel
theorem dX4_init_4 : decode cX4_init 4 = .ok (.aload_n 0, 1) := by decide +kernel
theorem dX4_init_5 : decode cX4_init 5 = .ok (.iconst 0, 1) := by decide +kernel
theorem dX4_init_6 : decode cX4_init 6 = .ok (.putfield 9, 3) := by decide +kernel
theorem dX4_init_9 : decode cX4_init 9 = .ok (.aload_n 0, 1) := by decide +kernel
theorem dX4_init_10 : decode cX4_init 10 = .ok (.new 15, 3) := by decide +kernel
theorem dX4_init_13 : decode cX4_init 13 = .ok (.dup, 1) := by decide +kernel
theorem dX4_init_14 : decode cX4_init 14 = .ok (.invokespecial 17, 3) := by decide +kernel
theorem dX4_init_17 : decode cX4_init 17 = .ok (.putfield 18, 3) := by decide +kernel
theorem dX4_init_20 : decode cX4_init 20 = .ok (.aload_n 0, 1) := by decide +kernel
theorem dX4_init_21 : decode cX4_init 21 = .ok (.bipush 100, 2) := by decide +kernel
theorem dX4_init_23 : decode cX4_init 23 = .ok (.newarray .char, 2) := by decide +kernel
theorem dX4_init_25 : decode cX4_init 25 = .ok (.putfield 22, 3) := by decide +kernel
theorem dX4_init_28 : decode cX4_init 28 = .ok (.return_, 1) := by decide +kernel
theorem dX4_append_0 : decode cX4_append 0 = .ok (.aload_n 0, 1) := by decide +kernel
theorem dX4_append_1 : decode cX4_append 1 = .ok (.getfield 26, 3) := by decide +kernel
theorem dX4_append_4 : decode cX4_append 4 = .ok (.bipush 100, 2) := by decide +kernel
theorem dX4_append_6 : decode cX4_append 6 = .ok (.if_icmp .ge 23, 3) := by decide +kernel
theorem dX4_append_9 : decode cX4_append 9 = .ok (.aload_n 0, 1) := by decide +kernel
theorem dX4_append_10 : decode cX4_append 10 = .ok (.getfield 22, 3) := by decide +kernel
theorem dX4_append_13 : decode cX4_append 13 = .ok (.aload_n 0, 1) := by decide +kernel
theorem dX4_append_14 : decode cX4_append 14 = .ok (.getfield 26, 3) := by decide +kernel
theorem dX4_append_17 : decode cX4_append 17 = .ok (.iload_n 1, 1) := by decide +kernel
theorem dX4_append_18 : decode cX4_append 18 = .ok (.castore, 1) := by decide +kernel
theorem dX4_append_19 : decode cX4_append 19 = .ok (.aload_n 0, 1) := by decide +kernel
theorem dX4_append_20 : decode cX4_append 20 = .ok (.dup, 1) := by decide +kernel
theorem dX4_append_21 : decode cX4_append 21 = .ok (.getfield 26, 3) := by decide +kernel
theorem dX4_append_24 : decode cX4_append 24 = .ok (.iconst 1, 1) := by decide +kernel
theorem dX4_append_25 : decode cX4_append 25 = .ok (.iadd, 1) := by decide +kernel
theorem dX4_append_26 : decode cX4_append 26 = .ok (.putfield 26, 3) := by decide +kernel
theorem dX4_append_29 : decode cX4_append 29 = .ok (.return_, 1) := by decide +kernel
theorem dX4_read_0 : decode cX4_read 0 = .ok (.aload_n 0, 1) := by decide +kernel
theorem dX4_read_1 : decode cX4_read 1 = .ok (.iconst 0, 1) := by decide +kernel
theorem dX4_read_2 : decode cX4_read 2 = .ok (.putfield 9, 3) := by decide +kernel
theorem dX4_read_5 : decode cX4_read 5 = .ok (.aload_n 0, 1) := by decide +kernel
theorem dX4_read_6 : decode cX4_read 6 = .ok (.iconst 0, 1) := by decide +kernel
theorem dX4_read_7 : decode cX4_read 7 = .ok (.putfield 29, 3) := by decide +kernel
theorem dX4_read_10 : decode cX4_read 10 = .ok (.aload_n 0, 1) := by decide +kernel
theorem dX4_read_11 : decode cX4_read 11 = .ok (.getfield 18, 3) := by decide +kernel
theorem dX4_read_14 : decode cX4_read 14 = .ok (.iconst 0, 1) := by decide +kernel
theorem dX4_read_15 : decode cX4_read 15 = .ok (.putfield 32, 3) := by decide +kernel
theorem dX4_read_18 : decode cX4_read 18 = .ok (.iconst 0, 1) := by decide +kernel
theorem dX4_read_19 : decode cX4_read 19 = .ok (.istore_n 1, 1) := by decide +kernel
theorem dX4_read_20 : decode cX4_read 20 = .ok (.iload_n 1, 1) := by decide +kernel
theorem dX4_read_21 : decode cX4_read 21 = .ok (.bipush 12, 2) := by decide +kernel
theorem dX4_read_23 : decode cX4_read 23 = .ok (.if_icmp .gt 47, 3) := by decide +kernel
theorem dX4_read_26 : decode cX4_read 26 = .ok (.aload_n 0, 1) := by decide +kernel
theorem dX4_read_27 : decode cX4_read 27 = .ok (.getfield 29, 3) := by decide +kernel
theorem dX4_read_30 : decode cX4_read 30 = .ok (.aload_n 0, 1) := by decide +kernel
theorem dX4_read_31 : decode cX4_read 31 = .ok (.getfield 26, 3) := by decide +kernel
theorem dX4_read_34 : decode cX4_read 34 = .ok (.if_icmp .ge 36, 3) := by decide +kernel
theorem dX4_read_37 : decode cX4_read 37 = .ok (.aload_n 0, 1) := by decide +kernel
theorem dX4_read_38 : decode cX4_read 38 = .ok (.getfield 9, 3) := by decide +kernel
theorem dX4_read_41 : decode cX4_read 41 = .ok (.ifCond .ne 29, 3) := by decide +kernel
theorem dX4_read_44 : decode cX4_read 44 = .ok (.aload_n 0, 1) := by decide +kernel
theorem dX4_read_45 : decode cX4_read 45 = .ok (.invokevirtual 35, 3) := by decide +kernel
theorem dX4_read_48 : decode cX4_read 48 = .ok (.ifCond .eq 16, 3) := by decide +kernel
theorem dX4_read_51 : decode cX4_read 51 = .ok (.aload_n 0, 1) := by decide +kernel
theorem dX4_read_52 : decode cX4_read 52 = .ok (.getfield 18, 3) := by decide +kernel
theorem dX4_read_55 : decode cX4_read 55 = .ok (.dup, 1) := by decide +kernel
theorem dX4_read_56 : decode cX4_read 56 = .ok (.getfield 32, 3) := by decide +kernel
theorem dX4_read_59 : decode cX4_read 59 = .ok (.iconst 1, 1) := by decide +kernel
theorem dX4_read_60 : decode cX4_read 60 = .ok (.iadd, 1) := by decide +kernel
theorem dX4_read_61 : decode cX4_read 61 = .ok (.putfield 32, 3) := by decide +kernel
theorem dX4_read_64 : decode cX4_read 64 = .ok (.iinc 1 1, 3) := by decide +kernel
theorem dX4_read_67 : decode cX4_read 67 = .ok (.goto (-47), 3) := by decide +kernel
theorem dX4_read_70 : decode cX4_read 70 = .ok (.aload_n 0, 1) := by decide +kernel
theorem dX4_read_71 : decode cX4_read 71 = .ok (.getfield 9, 3) := by decide +kernel
theorem dX4_read_74 : decode cX4_read 74 = .ok (.ifCond .ne 13, 3) := by decide +kernel
theorem dX4_read_77 : decode cX4_read 77 = .ok (.aload_n 0, 1) := by decide +kernel
theorem dX4_read_78 : decode cX4_read 78 = .ok (.getfield 18, 3) := by decide +kernel
theorem dX4_read_81 : decode cX4_read 81 = .ok (.getfield 32, 3) := by decide +kernel
theorem dX4_read_84 : decode cX4_read 84 = .ok (.goto 10, 3) := by decide +kernel
theorem dX4_read_87 : decode cX4_read 87 = .ok (.bipush (-10), 2) := by decide +kernel
theorem dX4_read_89 : decode cX4_read 89 = .ok (.aload_n 0, 1) := by decide +kernel
theorem dX4_read_90 : decode cX4_read 90 = .ok (.getfield 29, 3) := by decide +kernel
theorem dX4_read_93 : decode cX4_read 93 = .ok (.isub, 1) := by decide +kernel
theorem dX4_read_94 : decode cX4_read 94 = .ok (.ireturn, 1) := by decide +kernel
theorem dX4_readTray_0 : decode cX4_readTray 0 = .ok (.aload_n 0, 1) := by decide +kernel
theorem dX4_readTray_1 : decode cX4_readTray 1 = .ok (.getfield 18, 3) := by decide +kernel
theorem dX4_readTray_4 : decode cX4_readTray 4 = .ok (.getfield 32, 3) := by decide +kernel
theorem dX4_readTray_7 : decode cX4_readTray 7 = .ok (.bipush 12, 2) := by decide +kernel
theorem dX4_readTray_9 : decode cX4_readTray 9 = .ok (.if_icmp .lt 27, 3) := by decide +kernel
theorem dX4_readTray_12 : decode cX4_readTray 12 = .ok (.aload_n 0, 1) := by decide +kernel
theorem dX4_readTray_13 : decode cX4_readTray 13 = .ok (.aload_n 0, 1) := by decide +kernel
theorem dX4_readTray_14 : decode cX4_readTray 14 = .ok (.invokevirtual 39, 3) := by decide +kernel
theorem dX4_readTray_17 : decode cX4_readTray 17 = .ok (.invokestatic 43, 3) := by decide +kernel
theorem dX4_readTray_20 : decode cX4_readTray 20 = .ok (.ifCond .eq 7, 3) := by decide +kernel
theorem dX4_readTray_23 : decode cX4_readTray 23 = .ok (.iconst 3, 1) := by decide +kernel
theorem dX4_readTray_24 : decode cX4_readTray 24 = .ok (.goto 4, 3) := by decide +kernel
theorem dX4_readTray_27 : decode cX4_readTray 27 = .ok (.iconst 1, 1) := by decide +kernel
theorem dX4_readTray_28 : decode cX4_readTray 28 = .ok (.aload_n 0, 1) := by decide +kernel
theorem dX4_readTray_29 : decode cX4_readTray 29 = .ok (.getfield 29, 3) := by decide +kernel
theorem dX4_readTray_32 : decode cX4_readTray 32 = .ok (.invokevirtual 47, 3) := by decide +kernel
theorem dX4_readTray_35 : decode cX4_readTray 35 = .ok (.ireturn, 1) := by decide +kernel
theorem dX4_readTray_36 : decode cX4_readTray 36 = .ok (.aload_n 0, 1) := by decide +kernel
theorem dX4_readTray_37 : decode cX4_readTray 37 = .ok (.bipush 10, 2) := by decide +kernel
theorem dX4_readTray_39 : decode cX4_readTray 39 = .ok (.invokevirtual 51, 3) := by decide +kernel
theorem dX4_readTray_42 : decode cX4_readTray 42 = .ok (.ifCond .ne 5, 3) := by decide +kernel
theorem dX4_readTray_45 : decode cX4_readTray 45 = .ok (.iconst 0, 1) := by decide +kernel
theorem dX4_readTray_46 : decode cX4_readTray 46 = .ok (.ireturn, 1) := by decide +kernel
theorem dX4_readTray_47 : decode cX4_readTray 47 = .ok (.aload_n 0, 1) := by decide +kernel
theorem dX4_readTray_48 : decode cX4_readTray 48 = .ok (.getfield 55, 3) := by decide +kernel
theorem dX4_readTray_51 : decode cX4_readTray 51 = .ok (.istore_n 1, 1) := by decide +kernel
theorem dX4_readTray_52 : decode cX4_readTray 52 = .ok (.aload_n 0, 1) := by decide +kernel
theorem dX4_readTray_53 : decode cX4_readTray 53 = .ok (.bipush 120, 2) := by decide +kernel
theorem dX4_readTray_55 : decode cX4_readTray 55 = .ok (.invokevirtual 58, 3) := by decide +kernel
theorem dX4_readTray_58 : decode cX4_readTray 58 = .ok (.ifCond .eq 12, 3) := by decide +kernel
theorem dX4_readTray_61 : decode cX4_readTray 61 = .ok (.aload_n 0, 1) := by decide +kernel
theorem dX4_readTray_62 : decode cX4_readTray 62 = .ok (.bipush 10, 2) := by decide +kernel
theorem dX4_readTray_64 : decode cX4_readTray 64 = .ok (.invokevirtual 51, 3) := by decide +kernel
theorem dX4_readTray_67 : decode cX4_readTray 67 = .ok (.ifCond .ne 5, 3) := by decide +kernel
theorem dX4_readTray_70 : decode cX4_readTray 70 = .ok (.iconst 0, 1) := by decide +kernel
theorem dX4_readTray_71 : decode cX4_readTray 71 = .ok (.ireturn, 1) := by decide +kernel
theorem dX4_readTray_72 : decode cX4_readTray 72 = .ok (.aload_n 0, 1) := by decide +kernel
theorem dX4_readTray_73 : decode cX4_readTray 73 = .ok (.getfield 55, 3) := by decide +kernel
theorem dX4_readTray_76 : decode cX4_readTray 76 = .ok (.istore_n 2, 1) := by decide +kernel
theorem dX4_readTray_77 : decode cX4_readTray 77 = .ok (.aload_n 0, 1) := by decide +kernel
theorem dX4_readTray_78 : decode cX4_readTray 78 = .ok (.bipush 120, 2) := by decide +kernel
theorem dX4_readTray_80 : decode cX4_readTray 80 = .ok (.invokevirtual 58, 3) := by decide +kernel
theorem dX4_readTray_83 : decode cX4_readTray 83 = .ok (.ifCond .eq 12, 3) := by decide +kernel
theorem dX4_readTray_86 : decode cX4_readTray 86 = .ok (.aload_n 0, 1) := by decide +kernel
theorem dX4_readTray_87 : decode cX4_readTray 87 = .ok (.bipush 9, 2) := by decide +kernel
theorem dX4_readTray_89 : decode cX4_readTray 89 = .ok (.invokevirtual 51, 3) := by decide +kernel
theorem dX4_readTray_92 : decode cX4_readTray 92 = .ok (.ifCond .ne 5, 3) := by decide +kernel
theorem dX4_readTray_95 : decode cX4_readTray 95 = .ok (.iconst 0, 1) := by decide +kernel
theorem dX4_readTray_96 : decode cX4_readTray 96 = .ok (.ireturn, 1) := by decide +kernel
theorem dX4_readTray_97 : decode cX4_readTray 97 = .ok (.aload_n 0, 1) := by decide +kernel
theorem dX4_readTray_98 : decode cX4_readTray 98 = .ok (.getfield 18, 3) := by decide +kernel
theorem dX4_readTray_101 : decode cX4_readTray 101 = .ok (.getfield 61, 3) := by decide +kernel
theorem dX4_readTray_104 : decode cX4_readTray 104 = .ok (.aload_n 0, 1) := by decide +kernel
theorem dX4_readTray_105 : decode cX4_readTray 105 = .ok (.getfield 18, 3) := by decide +kernel
theorem dX4_readTray_108 : decode cX4_readTray 108 = .ok (.getfield 32, 3) := by decide +kernel
theorem dX4_readTray_111 : decode cX4_readTray 111 = .ok (.aaload, 1) := by decide +kernel
theorem dX4_readTray_112 : decode cX4_readTray 112 = .ok (.astore_n 3, 1) := by decide +kernel
theorem dX4_readTray_113 : decode cX4_readTray 113 = .ok (.aload_n 3, 1) := by decide +kernel
theorem dX4_readTray_114 : decode cX4_readTray 114 = .ok (.iload_n 1, 1) := by decide +kernel
theorem dX4_readTray_115 : decode cX4_readTray 115 = .ok (.iload_n 2, 1) := by decide +kernel
theorem dX4_readTray_116 : decode cX4_readTray 116 = .ok (.aload_n 0, 1) := by decide +kernel
theorem dX4_readTray_117 : decode cX4_readTray 117 = .ok (.getfield 55, 3) := by decide +kernel
theorem dX4_readTray_120 : decode cX4_readTray 120 = .ok (.iconst 0, 1) := by decide +kernel
theorem dX4_readTray_121 : decode cX4_readTray 121 = .ok (.invokevirtual 65, 3) := by decide +kernel
theorem dX4_readTray_124 : decode cX4_readTray 124 = .ok (.aload_n 0, 1) := by decide +kernel
theorem dX4_readTray_125 : decode cX4_readTray 125 = .ok (.aload_n 3, 1) := by decide +kernel
theorem dX4_readTray_126 : decode cX4_readTray 126 = .ok (.invokevirtual 71, 3) := by decide +kernel
theorem dX4_readTray_129 : decode cX4_readTray 129 = .ok (.ifCond .eq 24, 3) := by decide +kernel
theorem dX4_readTray_132 : decode cX4_readTray 132 = .ok (.aload_n 0, 1) := by decide +kernel
theorem dX4_readTray_133 : decode cX4_readTray 133 = .ok (.aload_n 3, 1) := by decide +kernel
theorem dX4_readTray_134 : decode cX4_readTray 134 = .ok (.invokevirtual 75, 3) := by decide +kernel
theorem dX4_readTray_137 : decode cX4_readTray 137 = .ok (.ifCond .eq 16, 3) := by decide +kernel
theorem dX4_readTray_140 : decode cX4_readTray 140 = .ok (.aload_n 0, 1) := by decide +kernel
theorem dX4_readTray_141 : decode cX4_readTray 141 = .ok (.bipush 59, 2) := by decide +kernel
theorem dX4_readTray_143 : decode cX4_readTray 143 = .ok (.invokevirtual 58, 3) := by decide +kernel
theorem dX4_readTray_146 : decode cX4_readTray 146 = .ok (.ifCond .eq 7, 3) := by decide +kernel
theorem dX4_readTray_149 : decode cX4_readTray 149 = .ok (.iconst 1, 1) := by decide +kernel
theorem dX4_readTray_150 : decode cX4_readTray 150 = .ok (.goto 4, 3) := by decide +kernel
theorem dX4_readTray_153 : decode cX4_readTray 153 = .ok (.iconst 0, 1) := by decide +kernel
theorem dX4_readTray_154 : decode cX4_readTray 154 = .ok (.ireturn, 1) := by decide +kernel
theorem dX4_readNumber_0 : decode cX4_readNumber 0 = .ok (.aload_n 0, 1) := by decide +kernel
theorem dX4_readNumber_1 : decode cX4_readNumber 1 = .ok (.getfield 29, 3) := by decide +kernel
theorem dX4_readNumber_4 : decode cX4_readNumber 4 = .ok (.istore_n 2, 1) := by decide +kernel
theorem dX4_readNumber_5 : decode cX4_readNumber 5 = .ok (.aload_n 0, 1) := by decide +kernel
theorem dX4_readNumber_6 : decode cX4_readNumber 6 = .ok (.iconst 0, 1) := by decide +kernel
theorem dX4_readNumber_7 : decode cX4_readNumber 7 = .ok (.putfield 55, 3) := by decide +kernel
theorem dX4_readNumber_10 : decode cX4_readNumber 10 = .ok (.aload_n 0, 1) := by decide +kernel
theorem dX4_readNumber_11 : decode cX4_readNumber 11 = .ok (.getfield 29, 3) := by decide +kernel
theorem dX4_readNumber_14 : decode cX4_readNumber 14 = .ok (.iload_n 2, 1) := by decide +kernel
theorem dX4_readNumber_15 : decode cX4_readNumber 15 = .ok (.iconst 2, 1) := by decide +kernel
theorem dX4_readNumber_16 : decode cX4_readNumber 16 = .ok (.iadd, 1) := by decide +kernel
theorem dX4_readNumber_17 : decode cX4_readNumber 17 = .ok (.if_icmp .ge 45, 3) := by decide +kernel
theorem dX4_readNumber_20 : decode cX4_readNumber 20 = .ok (.aload_n 0, 1) := by decide +kernel
theorem dX4_readNumber_21 : decode cX4_readNumber 21 = .ok (.invokevirtual 39, 3) := by decide +kernel
theorem dX4_readNumber_24 : decode cX4_readNumber 24 = .ok (.invokestatic 43, 3) := by decide +kernel
theorem dX4_readNumber_27 : decode cX4_readNumber 27 = .ok (.ifCond .eq 35, 3) := by decide +kernel
theorem dX4_readNumber_30 : decode cX4_readNumber 30 = .ok (.aload_n 0, 1) := by decide +kernel
theorem dX4_readNumber_31 : decode cX4_readNumber 31 = .ok (.bipush 10, 2) := by decide +kernel
theorem dX4_readNumber_33 : decode cX4_readNumber 33 = .ok (.aload_n 0, 1) := by decide +kernel
theorem dX4_readNumber_34 : decode cX4_readNumber 34 = .ok (.getfield 55, 3) := by decide +kernel
theorem dX4_readNumber_37 : decode cX4_readNumber 37 = .ok (.imul, 1) := by decide +kernel
theorem dX4_readNumber_38 : decode cX4_readNumber 38 = .ok (.aload_n 0, 1) := by decide +kernel
theorem dX4_readNumber_39 : decode cX4_readNumber 39 = .ok (.invokevirtual 39, 3) := by decide +kernel
theorem dX4_readNumber_42 : decode cX4_readNumber 42 = .ok (.iadd, 1) := by decide +kernel
theorem dX4_readNumber_43 : decode cX4_readNumber 43 = .ok (.bipush 48, 2) := by decide +kernel
theorem dX4_readNumber_45 : decode cX4_readNumber 45 = .ok (.isub, 1) := by decide +kernel
theorem dX4_readNumber_46 : decode cX4_readNumber 46 = .ok (.putfield 55, 3) := by decide +kernel
theorem dX4_readNumber_49 : decode cX4_readNumber 49 = .ok (.aload_n 0, 1) := by decide +kernel
theorem dX4_readNumber_50 : decode cX4_readNumber 50 = .ok (.dup, 1) := by decide +kernel
theorem dX4_readNumber_51 : decode cX4_readNumber 51 = .ok (.getfield 29, 3) := by decide +kernel
theorem dX4_readNumber_54 : decode cX4_readNumber 54 = .ok (.iconst 1, 1) := by decide +kernel
theorem dX4_readNumber_55 : decode cX4_readNumber 55 = .ok (.iadd, 1) := by decide +kernel
theorem dX4_readNumber_56 : decode cX4_readNumber 56 = .ok (.putfield 29, 3) := by decide +kernel
theorem dX4_readNumber_59 : decode cX4_readNumber 59 = .ok (.goto (-49), 3) := by decide +kernel
theorem dX4_readNumber_62 : decode cX4_readNumber 62 = .ok (.aload_n 0, 1) := by decide +kernel
theorem dX4_readNumber_63 : decode cX4_readNumber 63 = .ok (.getfield 29, 3) := by decide +kernel
theorem dX4_readNumber_66 : decode cX4_readNumber 66 = .ok (.iload_n 2, 1) := by decide +kernel
theorem dX4_readNumber_67 : decode cX4_readNumber 67 = .ok (.if_icmp .eq 13, 3) := by decide +kernel
theorem dX4_readNumber_70 : decode cX4_readNumber 70 = .ok (.aload_n 0, 1) := by decide +kernel
theorem dX4_readNumber_71 : decode cX4_readNumber 71 = .ok (.invokevirtual 39, 3) := by decide +kernel
theorem dX4_readNumber_74 : decode cX4_readNumber 74 = .ok (.invokestatic 43, 3) := by decide +kernel
theorem dX4_readNumber_77 : decode cX4_readNumber 77 = .ok (.ifCond .eq 13, 3) := by decide +kernel
theorem dX4_readNumber_80 : decode cX4_readNumber 80 = .ok (.aload_n 0, 1) := by decide +kernel
theorem dX4_readNumber_81 : decode cX4_readNumber 81 = .ok (.iconst 1, 1) := by decide +kernel
theorem dX4_readNumber_82 : decode cX4_readNumber 82 = .ok (.aload_n 0, 1) := by decide +kernel
theorem dX4_readNumber_83 : decode cX4_readNumber 83 = .ok (.getfield 29, 3) := by decide +kernel
theorem dX4_readNumber_86 : decode cX4_readNumber 86 = .ok (.invokevirtual 47, 3) := by decide +kernel
theorem dX4_readNumber_89 : decode cX4_readNumber 89 = .ok (.ireturn, 1) := by decide +kernel
theorem dX4_readNumber_90 : decode cX4_readNumber 90 = .ok (.aload_n 0, 1) := by decide +kernel
theorem dX4_readNumber_91 : decode cX4_readNumber 91 = .ok (.getfield 55, 3) := by decide +kernel
theorem dX4_readNumber_94 : decode cX4_readNumber 94 = .ok (.iconst 1, 1) := by decide +kernel
theorem dX4_readNumber_95 : decode cX4_readNumber 95 = .ok (.iload_n 1, 1) := by decide +kernel
theorem dX4_readNumber_96 : decode cX4_readNumber 96 = .ok (.invokestatic 78, 3) := by decide +kernel
theorem dX4_readNumber_99 : decode cX4_readNumber 99 = .ok (.ifCond .ne 12, 3) := by decide +kernel
theorem dX4_readNumber_102 : decode cX4_readNumber 102 = .ok (.aload_n 0, 1) := by decide +kernel
theorem dX4_readNumber_103 : decode cX4_readNumber 103 = .ok (.iconst 2, 1) := by decide +kernel
theorem dX4_readNumber_104 : decode cX4_readNumber 104 = .ok (.iload_n 2, 1) := by decide +kernel
theorem dX4_readNumber_105 : decode cX4_readNumber 105 = .ok (.invokevirtual 47, 3) := by decide +kernel
theorem dX4_readNumber_108 : decode cX4_readNumber 108 = .ok (.ifCond .eq 7, 3) := by decide +kernel
theorem dX4_readNumber_111 : decode cX4_readNumber 111 = .ok (.iconst 1, 1) := by decide +kernel
theorem dX4_readNumber_112 : decode cX4_readNumber 112 = .ok (.goto 4, 3) := by decide +kernel
theorem dX4_readNumber_115 : decode cX4_readNumber 115 = .ok (.iconst 0, 1) := by decide +kernel
theorem dX4_readNumber_116 : decode cX4_readNumber 116 = .ok (.ireturn, 1) := by decide +kernel
theorem dX4_readSign_0 : decode cX4_readSign 0 = .ok (.aload_n 0, 1) := by decide +kernel
theorem dX4_readSign_1 : decode cX4_readSign 1 = .ok (.invokevirtual 39, 3) := by decide +kernel
theorem dX4_readSign_4 : decode cX4_readSign 4 = .ok (.iload_n 1, 1) := by decide +kernel
theorem dX4_readSign_5 : decode cX4_readSign 5 = .ok (.if_icmp .eq 13, 3) := by decide +kernel
theorem dX4_readSign_8 : decode cX4_readSign 8 = .ok (.aload_n 0, 1) := by decide +kernel
theorem dX4_readSign_9 : decode cX4_readSign 9 = .ok (.iconst 1, 1) := by decide +kernel
theorem dX4_readSign_10 : decode cX4_readSign 10 = .ok (.aload_n 0, 1) := by decide +kernel
theorem dX4_readSign_11 : decode cX4_readSign 11 = .ok (.getfield 29, 3) := by decide +kernel
theorem dX4_readSign_14 : decode cX4_readSign 14 = .ok (.invokevirtual 47, 3) := by decide +kernel
theorem dX4_readSign_17 : decode cX4_readSign 17 = .ok (.ireturn, 1) := by decide +kernel
theorem dX4_readSign_18 : decode cX4_readSign 18 = .ok (.aload_n 0, 1) := by decide +kernel
theorem dX4_readSign_19 : decode cX4_readSign 19 = .ok (.dup, 1) := by decide +kernel
theorem dX4_readSign_20 : decode cX4_readSign 20 = .ok (.getfield 29, 3) := by decide +kernel
theorem dX4_readSign_23 : decode cX4_readSign 23 = .ok (.iconst 1, 1) := by decide +kernel
theorem dX4_readSign_24 : decode cX4_readSign 24 = .ok (.iadd, 1) := by decide +kernel
theorem dX4_readSign_25 : decode cX4_readSign 25 = .ok (.putfield 29, 3) := by decide +kernel
theorem dX4_readSign_28 : decode cX4_readSign 28 = .ok (.iconst 1, 1) := by decide +kernel
theorem dX4_readSign_29 : decode cX4_readSign 29 = .ok (.ireturn, 1) := by decide +kernel
theorem dX4_readLid_0 : decode cX4_readLid 0 = .ok (.aload_n 0, 1) := by decide +kernel
theorem dX4_readLid_1 : decode cX4_readLid 1 = .ok (.invokevirtual 39, 3) := by decide +kernel
theorem dX4_readLid_4 : decode cX4_readLid 4 = .ok (.bipush 108, 2) := by decide +kernel
theorem dX4_readLid_6 : decode cX4_readLid 6 = .ok (.if_icmp .ne 18, 3) := by decide +kernel
theorem dX4_readLid_9 : decode cX4_readLid 9 = .ok (.aload_n 0, 1) := by decide +kernel
theorem dX4_readLid_10 : decode cX4_readLid 10 = .ok (.dup, 1) := by decide +kernel
theorem dX4_readLid_11 : decode cX4_readLid 11 = .ok (.getfield 29, 3) := by decide +kernel
theorem dX4_readLid_14 : decode cX4_readLid 14 = .ok (.iconst 1, 1) := by decide +kernel
theorem dX4_readLid_15 : decode cX4_readLid 15 = .ok (.iadd, 1) := by decide +kernel
theorem dX4_readLid_16 : decode cX4_readLid 16 = .ok (.putfield 29, 3) := by decide +kernel
theorem dX4_readLid_19 : decode cX4_readLid 19 = .ok (.aload_n 1, 1) := by decide +kernel
theorem dX4_readLid_20 : decode cX4_readLid 20 = .ok (.iconst 1, 1) := by decide +kernel
theorem dX4_readLid_21 : decode cX4_readLid 21 = .ok (.putfield 82, 3) := by decide +kernel
end
section
theorem dX4_readLid_24 : decode cX4_readLid 24 = .ok (.iconst 1, 1) := by decide +kernel
theorem dX4_readLid_25 : decode cX4_readLid 25 = .ok (.ireturn, 1) := by decide +kernel
theorem dX4_readTurn_0 : decode cX4_readTurn 0 = .ok (.aload_n 0, 1) := by decide +kernel
theorem dX4_readTurn_1 : decode cX4_readTurn 1 = .ok (.invokevirtual 39, 3) := by decide +kernel
theorem dX4_readTurn_4 : decode cX4_readTurn 4 = .ok (.bipush 64, 2) := by decide +kernel
theorem dX4_readTurn_6 : decode cX4_readTurn 6 = .ok (.if_icmp .eq 5, 3) := by decide +kernel
theorem dX4_readTurn_9 : decode cX4_readTurn 9 = .ok (.iconst 1, 1) := by decide +kernel
theorem dX4_readTurn_10 : decode cX4_readTurn 10 = .ok (.ireturn, 1) := by decide +kernel
theorem dX4_readTurn_11 : decode cX4_readTurn 11 = .ok (.aload_n 0, 1) := by decide +kernel
theorem dX4_readTurn_12 : decode cX4_readTurn 12 = .ok (.dup, 1) := by decide +kernel
theorem dX4_readTurn_13 : decode cX4_readTurn 13 = .ok (.getfield 29, 3) := by decide +kernel
theorem dX4_readTurn_16 : decode cX4_readTurn 16 = .ok (.iconst 1, 1) := by decide +kernel
theorem dX4_readTurn_17 : decode cX4_readTurn 17 = .ok (.iadd, 1) := by decide +kernel
theorem dX4_readTurn_18 : decode cX4_readTurn 18 = .ok (.putfield 29, 3) := by decide +kernel
theorem dX4_readTurn_21 : decode cX4_readTurn 21 = .ok (.aload_n 0, 1) := by decide +kernel
theorem dX4_readTurn_22 : decode cX4_readTurn 22 = .ok (.invokevirtual 39, 3) := by decide +kernel
theorem dX4_readTurn_25 : decode cX4_readTurn 25 = .ok (.invokestatic 43, 3) := by decide +kernel
theorem dX4_readTurn_28 : decode cX4_readTurn 28 = .ok (.ifCond .ne 13, 3) := by decide +kernel
theorem dX4_readTurn_31 : decode cX4_readTurn 31 = .ok (.aload_n 0, 1) := by decide +kernel
theorem dX4_readTurn_32 : decode cX4_readTurn 32 = .ok (.iconst 1, 1) := by decide +kernel
theorem dX4_readTurn_33 : decode cX4_readTurn 33 = .ok (.aload_n 0, 1) := by decide +kernel
theorem dX4_readTurn_34 : decode cX4_readTurn 34 = .ok (.getfield 29, 3) := by decide +kernel
theorem dX4_readTurn_37 : decode cX4_readTurn 37 = .ok (.invokevirtual 47, 3) := by decide +kernel
theorem dX4_readTurn_40 : decode cX4_readTurn 40 = .ok (.ireturn, 1) := by decide +kernel
theorem dX4_readTurn_41 : decode cX4_readTurn 41 = .ok (.aload_n 1, 1) := by decide +kernel
theorem dX4_readTurn_42 : decode cX4_readTurn 42 = .ok (.aload_n 0, 1) := by decide +kernel
theorem dX4_readTurn_43 : decode cX4_readTurn 43 = .ok (.invokevirtual 39, 3) := by decide +kernel
theorem dX4_readTurn_46 : decode cX4_readTurn 46 = .ok (.bipush 48, 2) := by decide +kernel
theorem dX4_readTurn_48 : decode cX4_readTurn 48 = .ok (.isub, 1) := by decide +kernel
theorem dX4_readTurn_49 : decode cX4_readTurn 49 = .ok (.putfield 85, 3) := by decide +kernel
theorem dX4_readTurn_52 : decode cX4_readTurn 52 = .ok (.aload_n 0, 1) := by decide +kernel
theorem dX4_readTurn_53 : decode cX4_readTurn 53 = .ok (.dup, 1) := by decide +kernel
theorem dX4_readTurn_54 : decode cX4_readTurn 54 = .ok (.getfield 29, 3) := by decide +kernel
theorem dX4_readTurn_57 : decode cX4_readTurn 57 = .ok (.iconst 1, 1) := by decide +kernel
theorem dX4_readTurn_58 : decode cX4_readTurn 58 = .ok (.iadd, 1) := by decide +kernel
theorem dX4_readTurn_59 : decode cX4_readTurn 59 = .ok (.putfield 29, 3) := by decide +kernel
theorem dX4_readTurn_62 : decode cX4_readTurn 62 = .ok (.iconst 1, 1) := by decide +kernel
theorem dX4_readTurn_63 : decode cX4_readTurn 63 = .ok (.ireturn, 1) := by decide +kernel
theorem dX4_next_0 : decode cX4_next 0 = .ok (.aload_n 0, 1) := by decide +kernel
theorem dX4_next_1 : decode cX4_next 1 = .ok (.getfield 29, 3) := by decide +kernel
theorem dX4_next_4 : decode cX4_next 4 = .ok (.aload_n 0, 1) := by decide +kernel
theorem dX4_next_5 : decode cX4_next 5 = .ok (.getfield 26, 3) := by decide +kernel
theorem dX4_next_8 : decode cX4_next 8 = .ok (.if_icmp .ge 24, 3) := by decide +kernel
theorem dX4_next_11 : decode cX4_next 11 = .ok (.aload_n 0, 1) := by decide +kernel
theorem dX4_next_12 : decode cX4_next 12 = .ok (.getfield 29, 3) := by decide +kernel
theorem dX4_next_15 : decode cX4_next 15 = .ok (.bipush 100, 2) := by decide +kernel
theorem dX4_next_17 : decode cX4_next 17 = .ok (.if_icmp .ge 15, 3) := by decide +kernel
theorem dX4_next_20 : decode cX4_next 20 = .ok (.aload_n 0, 1) := by decide +kernel
theorem dX4_next_21 : decode cX4_next 21 = .ok (.getfield 22, 3) := by decide +kernel
theorem dX4_next_24 : decode cX4_next 24 = .ok (.aload_n 0, 1) := by decide +kernel
theorem dX4_next_25 : decode cX4_next 25 = .ok (.getfield 29, 3) := by decide +kernel
theorem dX4_next_28 : decode cX4_next 28 = .ok (.caload, 1) := by decide +kernel
theorem dX4_next_29 : decode cX4_next 29 = .ok (.goto 4, 3) := by decide +kernel
theorem dX4_next_32 : decode cX4_next 32 = .ok (.iconst 0, 1) := by decide +kernel
theorem dX4_next_33 : decode cX4_next 33 = .ok (.ireturn, 1) := by decide +kernel
theorem dX4_fail_0 : decode cX4_fail 0 = .ok (.aload_n 0, 1) := by decide +kernel
theorem dX4_fail_1 : decode cX4_fail 1 = .ok (.iload_n 1, 1) := by decide +kernel
theorem dX4_fail_2 : decode cX4_fail 2 = .ok (.putfield 9, 3) := by decide +kernel
theorem dX4_fail_5 : decode cX4_fail 5 = .ok (.aload_n 0, 1) := by decide +kernel
theorem dX4_fail_6 : decode cX4_fail 6 = .ok (.iload_n 2, 1) := by decide +kernel
theorem dX4_fail_7 : decode cX4_fail 7 = .ok (.putfield 29, 3) := by decide +kernel
theorem dX4_fail_10 : decode cX4_fail 10 = .ok (.iconst 0, 1) := by decide +kernel
theorem dX4_fail_11 : decode cX4_fail 11 = .ok (.ireturn, 1) := by decide +kernel
theorem dX4_isDigit_0 : decode cX4_isDigit 0 = .ok (.iload_n 0, 1) := by decide +kernel
theorem dX4_isDigit_1 : decode cX4_isDigit 1 = .ok (.bipush 48, 2) := by decide +kernel
theorem dX4_isDigit_3 : decode cX4_isDigit 3 = .ok (.if_icmp .lt 13, 3) := by decide +kernel
theorem dX4_isDigit_6 : decode cX4_isDigit 6 = .ok (.iload_n 0, 1) := by decide +kernel
theorem dX4_isDigit_7 : decode cX4_isDigit 7 = .ok (.bipush 57, 2) := by decide +kernel
theorem dX4_isDigit_9 : decode cX4_isDigit 9 = .ok (.if_icmp .gt 7, 3) := by decide +kernel
theorem dX4_isDigit_12 : decode cX4_isDigit 12 = .ok (.iconst 1, 1) := by decide +kernel
theorem dX4_isDigit_13 : decode cX4_isDigit 13 = .ok (.goto 4, 3) := by decide +kernel
theorem dX4_isDigit_16 : decode cX4_isDigit 16 = .ok (.iconst 0, 1) := by decide +kernel
theorem dX4_isDigit_17 : decode cX4_isDigit 17 = .ok (.ireturn, 1) := by decide +kernel
theorem dX5_init_0 : decode cX5_init 0 = .ok (.aload_n 0, 1) := by decide +kernel
theorem dX5_init_1 : decode cX5_init 1 = .ok (.invokespecial 1, 3) := by decide +kernel
theorem dX5_init_4 : decode cX5_init 4 = .ok (.return_, 1) := by decide +kernel
theorem dX5_become_0 : decode cX5_become 0 = .ok (.aload_n 0, 1) := by decide +kernel
theorem dX5_become_1 : decode cX5_become 1 = .ok (.iload_n 1, 1) := by decide +kernel
theorem dX5_become_2 : decode cX5_become 2 = .ok (.putfield 7, 3) := by decide +kernel
theorem dX5_become_5 : decode cX5_become 5 = .ok (.aload_n 0, 1) := by decide +kernel
theorem dX5_become_6 : decode cX5_become 6 = .ok (.iload_n 2, 1) := by decide +kernel
theorem dX5_become_7 : decode cX5_become 7 = .ok (.putfield 13, 3) := by decide +kernel
theorem dX5_become_10 : decode cX5_become 10 = .ok (.aload_n 0, 1) := by decide +kernel
theorem dX5_become_11 : decode cX5_become 11 = .ok (.iload_n 3, 1) := by decide +kernel
theorem dX5_become_12 : decode cX5_become 12 = .ok (.putfield 16, 3) := by decide +kernel
theorem dX5_become_15 : decode cX5_become 15 = .ok (.aload_n 0, 1) := by decide +kernel
theorem dX5_become_16 : decode cX5_become 16 = .ok (.iload 4, 2) := by decide +kernel
theorem dX5_become_18 : decode cX5_become 18 = .ok (.putfield 19, 3) := by decide +kernel
theorem dX5_become_21 : decode cX5_become 21 = .ok (.aload_n 0, 1) := by decide +kernel
theorem dX5_become_22 : decode cX5_become 22 = .ok (.iconst 0, 1) := by decide +kernel
theorem dX5_become_23 : decode cX5_become 23 = .ok (.putfield 22, 3) := by decide +kernel
theorem dX5_become_26 : decode cX5_become 26 = .ok (.aload_n 0, 1) := by decide +kernel
theorem dX5_become_27 : decode cX5_become 27 = .ok (.invokevirtual 25, 3) := by decide +kernel
theorem dX5_become_30 : decode cX5_become 30 = .ok (.return_, 1) := by decide +kernel
theorem dX5_copyFrom_0 : decode cX5_copyFrom 0 = .ok (.aload_n 0, 1) := by decide +kernel
theorem dX5_copyFrom_1 : decode cX5_copyFrom 1 = .ok (.aload_n 1, 1) := by decide +kernel
theorem dX5_copyFrom_2 : decode cX5_copyFrom 2 = .ok (.getfield 7, 3) := by decide +kernel
theorem dX5_copyFrom_5 : decode cX5_copyFrom 5 = .ok (.putfield 7, 3) := by decide +kernel
theorem dX5_copyFrom_8 : decode cX5_copyFrom 8 = .ok (.aload_n 0, 1) := by decide +kernel
theorem dX5_copyFrom_9 : decode cX5_copyFrom 9 = .ok (.aload_n 1, 1) := by decide +kernel
theorem dX5_copyFrom_10 : decode cX5_copyFrom 10 = .ok (.getfield 13, 3) := by decide +kernel
theorem dX5_copyFrom_13 : decode cX5_copyFrom 13 = .ok (.putfield 13, 3) := by decide +kernel
theorem dX5_copyFrom_16 : decode cX5_copyFrom 16 = .ok (.aload_n 0, 1) := by decide +kernel
theorem dX5_copyFrom_17 : decode cX5_copyFrom 17 = .ok (.aload_n 1, 1) := by decide +kernel
theorem dX5_copyFrom_18 : decode cX5_copyFrom 18 = .ok (.getfield 16, 3) := by decide +kernel
theorem dX5_copyFrom_21 : decode cX5_copyFrom 21 = .ok (.putfield 16, 3) := by decide +kernel
theorem dX5_copyFrom_24 : decode cX5_copyFrom 24 = .ok (.aload_n 0, 1) := by decide +kernel
theorem dX5_copyFrom_25 : decode cX5_copyFrom 25 = .ok (.aload_n 1, 1) := by decide +kernel
theorem dX5_copyFrom_26 : decode cX5_copyFrom 26 = .ok (.getfield 19, 3) := by decide +kernel
theorem dX5_copyFrom_29 : decode cX5_copyFrom 29 = .ok (.putfield 19, 3) := by decide +kernel
theorem dX5_copyFrom_32 : decode cX5_copyFrom 32 = .ok (.aload_n 0, 1) := by decide +kernel
theorem dX5_copyFrom_33 : decode cX5_copyFrom 33 = .ok (.aload_n 1, 1) := by decide +kernel
theorem dX5_copyFrom_34 : decode cX5_copyFrom 34 = .ok (.getfield 22, 3) := by decide +kernel
theorem dX5_copyFrom_37 : decode cX5_copyFrom 37 = .ok (.putfield 22, 3) := by decide +kernel
theorem dX5_copyFrom_40 : decode cX5_copyFrom 40 = .ok (.aload_n 0, 1) := by decide +kernel
theorem dX5_copyFrom_41 : decode cX5_copyFrom 41 = .ok (.aload_n 1, 1) := by decide +kernel
theorem dX5_copyFrom_42 : decode cX5_copyFrom 42 = .ok (.getfield 28, 3) := by decide +kernel
theorem dX5_copyFrom_45 : decode cX5_copyFrom 45 = .ok (.putfield 28, 3) := by decide +kernel
theorem dX5_copyFrom_48 : decode cX5_copyFrom 48 = .ok (.aload_n 0, 1) := by decide +kernel
theorem dX5_copyFrom_49 : decode cX5_copyFrom 49 = .ok (.aload_n 1, 1) := by decide +kernel
theorem dX5_copyFrom_50 : decode cX5_copyFrom 50 = .ok (.getfield 32, 3) := by decide +kernel
theorem dX5_copyFrom_53 : decode cX5_copyFrom 53 = .ok (.putfield 32, 3) := by decide +kernel
theorem dX5_copyFrom_56 : decode cX5_copyFrom 56 = .ok (.aload_n 0, 1) := by decide +kernel
theorem dX5_copyFrom_57 : decode cX5_copyFrom 57 = .ok (.aload_n 1, 1) := by decide +kernel
theorem dX5_copyFrom_58 : decode cX5_copyFrom 58 = .ok (.getfield 35, 3) := by decide +kernel
theorem dX5_copyFrom_61 : decode cX5_copyFrom 61 = .ok (.putfield 35, 3) := by decide +kernel
theorem dX5_copyFrom_64 : decode cX5_copyFrom 64 = .ok (.aload_n 0, 1) := by decide +kernel
theorem dX5_copyFrom_65 : decode cX5_copyFrom 65 = .ok (.aload_n 1, 1) := by decide +kernel
theorem dX5_copyFrom_66 : decode cX5_copyFrom 66 = .ok (.getfield 38, 3) := by decide +kernel
theorem dX5_copyFrom_69 : decode cX5_copyFrom 69 = .ok (.putfield 38, 3) := by decide +kernel
theorem dX5_copyFrom_72 : decode cX5_copyFrom 72 = .ok (.aload_n 0, 1) := by decide +kernel
theorem dX5_copyFrom_73 : decode cX5_copyFrom 73 = .ok (.aload_n 1, 1) := by decide +kernel
theorem dX5_copyFrom_74 : decode cX5_copyFrom 74 = .ok (.getfield 41, 3) := by decide +kernel
theorem dX5_copyFrom_77 : decode cX5_copyFrom 77 = .ok (.putfield 41, 3) := by decide +kernel
theorem dX5_copyFrom_80 : decode cX5_copyFrom 80 = .ok (.aload_n 0, 1) := by decide +kernel
theorem dX5_copyFrom_81 : decode cX5_copyFrom 81 = .ok (.aload_n 1, 1) := by decide +kernel
theorem dX5_copyFrom_82 : decode cX5_copyFrom 82 = .ok (.getfield 44, 3) := by decide +kernel
theorem dX5_copyFrom_85 : decode cX5_copyFrom 85 = .ok (.putfield 44, 3) := by decide +kernel
theorem dX5_copyFrom_88 : decode cX5_copyFrom 88 = .ok (.aload_n 0, 1) := by decide +kernel
theorem dX5_copyFrom_89 : decode cX5_copyFrom 89 = .ok (.aload_n 1, 1) := by decide +kernel
theorem dX5_copyFrom_90 : decode cX5_copyFrom 90 = .ok (.getfield 47, 3) := by decide +kernel
theorem dX5_copyFrom_93 : decode cX5_copyFrom 93 = .ok (.putfield 47, 3) := by decide +kernel
theorem dX5_copyFrom_96 : decode cX5_copyFrom 96 = .ok (.aload_n 0, 1) := by decide +kernel
theorem dX5_copyFrom_97 : decode cX5_copyFrom 97 = .ok (.aload_n 1, 1) := by decide +kernel
theorem dX5_copyFrom_98 : decode cX5_copyFrom 98 = .ok (.getfield 50, 3) := by decide +kernel
theorem dX5_copyFrom_101 : decode cX5_copyFrom 101 = .ok (.putfield 50, 3) := by decide +kernel
theorem dX5_copyFrom_104 : decode cX5_copyFrom 104 = .ok (.aload_n 0, 1) := by decide +kernel
theorem dX5_copyFrom_105 : decode cX5_copyFrom 105 = .ok (.aload_n 1, 1) := by decide +kernel
theorem dX5_copyFrom_106 : decode cX5_copyFrom 106 = .ok (.getfield 53, 3) := by decide +kernel
theorem dX5_copyFrom_109 : decode cX5_copyFrom 109 = .ok (.putfield 53, 3) := by decide +kernel
theorem dX5_copyFrom_112 : decode cX5_copyFrom 112 = .ok (.return_, 1) := by decide +kernel
theorem dX5_lie_0 : decode cX5_lie 0 = .ok (.aload_n 0, 1) := by decide +kernel
theorem dX5_lie_1 : decode cX5_lie 1 = .ok (.iconst 1, 1) := by decide +kernel
theorem dX5_lie_2 : decode cX5_lie 2 = .ok (.putfield 28, 3) := by decide +kernel
theorem dX5_lie_5 : decode cX5_lie 5 = .ok (.aload_n 0, 1) := by decide +kernel
theorem dX5_lie_6 : decode cX5_lie 6 = .ok (.iload_n 3, 1) := by decide +kernel
theorem dX5_lie_7 : decode cX5_lie 7 = .ok (.putfield 32, 3) := by decide +kernel
theorem dX5_lie_10 : decode cX5_lie 10 = .ok (.aload_n 0, 1) := by decide +kernel
theorem dX5_lie_11 : decode cX5_lie 11 = .ok (.iload_n 1, 1) := by decide +kernel
theorem dX5_lie_12 : decode cX5_lie 12 = .ok (.putfield 35, 3) := by decide +kernel
theorem dX5_lie_15 : decode cX5_lie 15 = .ok (.aload_n 0, 1) := by decide +kernel
theorem dX5_lie_16 : decode cX5_lie 16 = .ok (.iload_n 2, 1) := by decide +kernel
theorem dX5_lie_17 : decode cX5_lie 17 = .ok (.putfield 38, 3) := by decide +kernel
theorem dX5_lie_20 : decode cX5_lie 20 = .ok (.aload_n 0, 1) := by decide +kernel
theorem dX5_lie_21 : decode cX5_lie 21 = .ok (.iload_n 1, 1) := by decide +kernel
theorem dX5_lie_22 : decode cX5_lie 22 = .ok (.aload_n 0, 1) := by decide +kernel
theorem dX5_lie_23 : decode cX5_lie 23 = .ok (.iload_n 3, 1) := by decide +kernel
theorem dX5_lie_24 : decode cX5_lie 24 = .ok (.invokevirtual 56, 3) := by decide +kernel
theorem dX5_lie_27 : decode cX5_lie 27 = .ok (.iadd, 1) := by decide +kernel
theorem dX5_lie_28 : decode cX5_lie 28 = .ok (.putfield 41, 3) := by decide +kernel
theorem dX5_lie_31 : decode cX5_lie 31 = .ok (.aload_n 0, 1) := by decide +kernel
theorem dX5_lie_32 : decode cX5_lie 32 = .ok (.iload_n 2, 1) := by decide +kernel
theorem dX5_lie_33 : decode cX5_lie 33 = .ok (.aload_n 0, 1) := by decide +kernel
theorem dX5_lie_34 : decode cX5_lie 34 = .ok (.iload_n 3, 1) := by decide +kernel
theorem dX5_lie_35 : decode cX5_lie 35 = .ok (.invokevirtual 60, 3) := by decide +kernel
theorem dX5_lie_38 : decode cX5_lie 38 = .ok (.iadd, 1) := by decide +kernel
theorem dX5_lie_39 : decode cX5_lie 39 = .ok (.putfield 44, 3) := by decide +kernel
theorem dX5_lie_42 : decode cX5_lie 42 = .ok (.aload_n 0, 1) := by decide +kernel
theorem dX5_lie_43 : decode cX5_lie 43 = .ok (.iload 4, 2) := by decide +kernel
theorem dX5_lie_45 : decode cX5_lie 45 = .ok (.putfield 47, 3) := by decide +kernel
theorem dX5_lie_48 : decode cX5_lie 48 = .ok (.aload_n 0, 1) := by decide +kernel
theorem dX5_lie_49 : decode cX5_lie 49 = .ok (.iload 4, 2) := by decide +kernel
theorem dX5_lie_51 : decode cX5_lie 51 = .ok (.aload_n 0, 1) := by decide +kernel
theorem dX5_lie_52 : decode cX5_lie 52 = .ok (.invokevirtual 63, 3) := by decide +kernel
theorem dX5_lie_55 : decode cX5_lie 55 = .ok (.iadd, 1) := by decide +kernel
theorem dX5_lie_56 : decode cX5_lie 56 = .ok (.putfield 50, 3) := by decide +kernel
theorem dX5_lie_59 : decode cX5_lie 59 = .ok (.aload_n 0, 1) := by decide +kernel
theorem dX5_lie_60 : decode cX5_lie 60 = .ok (.iload 5, 2) := by decide +kernel
theorem dX5_lie_62 : decode cX5_lie 62 = .ok (.putfield 53, 3) := by decide +kernel
theorem dX5_lie_65 : decode cX5_lie 65 = .ok (.return_, 1) := by decide +kernel
theorem dX5_leave_0 : decode cX5_leave 0 = .ok (.aload_n 0, 1) := by decide +kernel
theorem dX5_leave_1 : decode cX5_leave 1 = .ok (.iconst 0, 1) := by decide +kernel
theorem dX5_leave_2 : decode cX5_leave 2 = .ok (.putfield 28, 3) := by decide +kernel
theorem dX5_leave_5 : decode cX5_leave 5 = .ok (.aload_n 0, 1) := by decide +kernel
theorem dX5_leave_6 : decode cX5_leave 6 = .ok (.iconst 0, 1) := by decide +kernel
theorem dX5_leave_7 : decode cX5_leave 7 = .ok (.putfield 32, 3) := by decide +kernel
theorem dX5_leave_10 : decode cX5_leave 10 = .ok (.return_, 1) := by decide +kernel
theorem dX5_alongX_0 : decode cX5_alongX 0 = .ok (.iload_n 1, 1) := by decide +kernel
theorem dX5_alongX_1 : decode cX5_alongX 1 = .ok (.ifCond .eq 10, 3) := by decide +kernel
theorem dX5_alongX_4 : decode cX5_alongX 4 = .ok (.aload_n 0, 1) := by decide +kernel
theorem dX5_alongX_5 : decode cX5_alongX 5 = .ok (.getfield 13, 3) := by decide +kernel
theorem dX5_alongX_8 : decode cX5_alongX 8 = .ok (.goto 7, 3) := by decide +kernel
theorem dX5_alongX_11 : decode cX5_alongX 11 = .ok (.aload_n 0, 1) := by decide +kernel
theorem dX5_alongX_12 : decode cX5_alongX 12 = .ok (.getfield 7, 3) := by decide +kernel
theorem dX5_alongX_15 : decode cX5_alongX 15 = .ok (.ireturn, 1) := by decide +kernel
theorem dX5_alongY_0 : decode cX5_alongY 0 = .ok (.iload_n 1, 1) := by decide +kernel
theorem dX5_alongY_1 : decode cX5_alongY 1 = .ok (.ifCond .eq 10, 3) := by decide +kernel
theorem dX5_alongY_4 : decode cX5_alongY 4 = .ok (.aload_n 0, 1) := by decide +kernel
theorem dX5_alongY_5 : decode cX5_alongY 5 = .ok (.getfield 7, 3) := by decide +kernel
theorem dX5_alongY_8 : decode cX5_alongY 8 = .ok (.goto 7, 3) := by decide +kernel
theorem dX5_alongY_11 : decode cX5_alongY 11 = .ok (.aload_n 0, 1) := by decide +kernel
theorem dX5_alongY_12 : decode cX5_alongY 12 = .ok (.getfield 13, 3) := by decide +kernel
theorem dX5_alongY_15 : decode cX5_alongY 15 = .ok (.ireturn, 1) := by decide +kernel
theorem dX5_area_0 : decode cX5_area 0 = .ok (.aload_n 0, 1) := by decide +kernel
theorem dX5_area_1 : decode cX5_area 1 = .ok (.getfield 7, 3) := by decide +kernel
theorem dX5_area_4 : decode cX5_area 4 = .ok (.aload_n 0, 1) := by decide +kernel
theorem dX5_area_5 : decode cX5_area 5 = .ok (.getfield 13, 3) := by decide +kernel
theorem dX5_area_8 : decode cX5_area 8 = .ok (.imul, 1) := by decide +kernel
theorem dX5_area_9 : decode cX5_area 9 = .ok (.ireturn, 1) := by decide +kernel
theorem dX5_tall_0 : decode cX5_tall 0 = .ok (.aload_n 0, 1) := by decide +kernel
theorem dX5_tall_1 : decode cX5_tall 1 = .ok (.getfield 16, 3) := by decide +kernel
theorem dX5_tall_4 : decode cX5_tall 4 = .ok (.aload_n 0, 1) := by decide +kernel
theorem dX5_tall_5 : decode cX5_tall 5 = .ok (.getfield 22, 3) := by decide +kernel
theorem dX5_tall_8 : decode cX5_tall 8 = .ok (.iadd, 1) := by decide +kernel
theorem dX5_tall_9 : decode cX5_tall 9 = .ok (.ireturn, 1) := by decide +kernel
theorem dX5_covers_0 : decode cX5_covers 0 = .ok (.aload_n 0, 1) := by decide +kernel
theorem dX5_covers_1 : decode cX5_covers 1 = .ok (.getfield 28, 3) := by decide +kernel
theorem dX5_covers_4 : decode cX5_covers 4 = .ok (.ifCond .eq 39, 3) := by decide +kernel
theorem dX5_covers_7 : decode cX5_covers 7 = .ok (.iload_n 1, 1) := by decide +kernel
theorem dX5_covers_8 : decode cX5_covers 8 = .ok (.aload_n 0, 1) := by decide +kernel
theorem dX5_covers_9 : decode cX5_covers 9 = .ok (.getfield 35, 3) := by decide +kernel
theorem dX5_covers_12 : decode cX5_covers 12 = .ok (.if_icmp .lt 31, 3) := by decide +kernel
theorem dX5_covers_15 : decode cX5_covers 15 = .ok (.iload_n 1, 1) := by decide +kernel
theorem dX5_covers_16 : decode cX5_covers 16 = .ok (.aload_n 0, 1) := by decide +kernel
theorem dX5_covers_17 : decode cX5_covers 17 = .ok (.getfield 41, 3) := by decide +kernel
theorem dX5_covers_20 : decode cX5_covers 20 = .ok (.if_icmp .ge 23, 3) := by decide +kernel
theorem dX5_covers_23 : decode cX5_covers 23 = .ok (.iload_n 2, 1) := by decide +kernel
theorem dX5_covers_24 : decode cX5_covers 24 = .ok (.aload_n 0, 1) := by decide +kernel
theorem dX5_covers_25 : decode cX5_covers 25 = .ok (.getfield 38, 3) := by decide +kernel
theorem dX5_covers_28 : decode cX5_covers 28 = .ok (.if_icmp .lt 15, 3) := by decide +kernel
theorem dX5_covers_31 : decode cX5_covers 31 = .ok (.iload_n 2, 1) := by decide +kernel
theorem dX5_covers_32 : decode cX5_covers 32 = .ok (.aload_n 0, 1) := by decide +kernel
theorem dX5_covers_33 : decode cX5_covers 33 = .ok (.getfield 44, 3) := by decide +kernel
theorem dX5_covers_36 : decode cX5_covers 36 = .ok (.if_icmp .ge 7, 3) := by decide +kernel
theorem dX5_covers_39 : decode cX5_covers 39 = .ok (.iconst 1, 1) := by decide +kernel
theorem dX5_covers_40 : decode cX5_covers 40 = .ok (.goto 4, 3) := by decide +kernel
theorem dX5_covers_43 : decode cX5_covers 43 = .ok (.iconst 0, 1) := by decide +kernel
theorem dX5_covers_44 : decode cX5_covers 44 = .ok (.ireturn, 1) := by decide +kernel
theorem dX5_liesOn_0 : decode cX5_liesOn 0 = .ok (.aload_n 0, 1) := by decide +kernel
theorem dX5_liesOn_1 : decode cX5_liesOn 1 = .ok (.getfield 28, 3) := by decide +kernel
theorem dX5_liesOn_4 : decode cX5_liesOn 4 = .ok (.ifCond .eq 69, 3) := by decide +kernel
theorem dX5_liesOn_7 : decode cX5_liesOn 7 = .ok (.aload_n 1, 1) := by decide +kernel
theorem dX5_liesOn_8 : decode cX5_liesOn 8 = .ok (.getfield 28, 3) := by decide +kernel
theorem dX5_liesOn_11 : decode cX5_liesOn 11 = .ok (.ifCond .eq 62, 3) := by decide +kernel
theorem dX5_liesOn_14 : decode cX5_liesOn 14 = .ok (.aload_n 0, 1) := by decide +kernel
theorem dX5_liesOn_15 : decode cX5_liesOn 15 = .ok (.getfield 47, 3) := by decide +kernel
theorem dX5_liesOn_18 : decode cX5_liesOn 18 = .ok (.aload_n 1, 1) := by decide +kernel
theorem dX5_liesOn_19 : decode cX5_liesOn 19 = .ok (.getfield 50, 3) := by decide +kernel
theorem dX5_liesOn_22 : decode cX5_liesOn 22 = .ok (.if_icmp .lt 51, 3) := by decide +kernel
theorem dX5_liesOn_25 : decode cX5_liesOn 25 = .ok (.aload_n 0, 1) := by decide +kernel
theorem dX5_liesOn_26 : decode cX5_liesOn 26 = .ok (.getfield 35, 3) := by decide +kernel
theorem dX5_liesOn_29 : decode cX5_liesOn 29 = .ok (.aload_n 1, 1) := by decide +kernel
theorem dX5_liesOn_30 : decode cX5_liesOn 30 = .ok (.getfield 41, 3) := by decide +kernel
theorem dX5_liesOn_33 : decode cX5_liesOn 33 = .ok (.if_icmp .ge 40, 3) := by decide +kernel
theorem dX5_liesOn_36 : decode cX5_liesOn 36 = .ok (.aload_n 1, 1) := by decide +kernel
theorem dX5_liesOn_37 : decode cX5_liesOn 37 = .ok (.getfield 35, 3) := by decide +kernel
theorem dX5_liesOn_40 : decode cX5_liesOn 40 = .ok (.aload_n 0, 1) := by decide +kernel
theorem dX5_liesOn_41 : decode cX5_liesOn 41 = .ok (.getfield 41, 3) := by decide +kernel
theorem dX5_liesOn_44 : decode cX5_liesOn 44 = .ok (.if_icmp .ge 29, 3) := by decide +kernel
theorem dX5_liesOn_47 : decode cX5_liesOn 47 = .ok (.aload_n 0, 1) := by decide +kernel
theorem dX5_liesOn_48 : decode cX5_liesOn 48 = .ok (.getfield 38, 3) := by decide +kernel
theorem dX5_liesOn_51 : decode cX5_liesOn 51 = .ok (.aload_n 1, 1) := by decide +kernel
theorem dX5_liesOn_52 : decode cX5_liesOn 52 = .ok (.getfield 44, 3) := by decide +kernel
theorem dX5_liesOn_55 : decode cX5_liesOn 55 = .ok (.if_icmp .ge 18, 3) := by decide +kernel
theorem dX5_liesOn_58 : decode cX5_liesOn 58 = .ok (.aload_n 1, 1) := by decide +kernel
theorem dX5_liesOn_59 : decode cX5_liesOn 59 = .ok (.getfield 38, 3) := by decide +kernel
theorem dX5_liesOn_62 : decode cX5_liesOn 62 = .ok (.aload_n 0, 1) := by decide +kernel
theorem dX5_liesOn_63 : decode cX5_liesOn 63 = .ok (.getfield 44, 3) := by decide +kernel
theorem dX5_liesOn_66 : decode cX5_liesOn 66 = .ok (.if_icmp .ge 7, 3) := by decide +kernel
theorem dX5_liesOn_69 : decode cX5_liesOn 69 = .ok (.iconst 1, 1) := by decide +kernel
theorem dX5_liesOn_70 : decode cX5_liesOn 70 = .ok (.goto 4, 3) := by decide +kernel
theorem dX5_liesOn_73 : decode cX5_liesOn 73 = .ok (.iconst 0, 1) := by decide +kernel
theorem dX5_liesOn_74 : decode cX5_liesOn 74 = .ok (.ireturn, 1) := by decide +kernel
theorem dX5_property_0 : decode cX5_property 0 = .ok (.iload_n 1, 1) := by decide +kernel
theorem dX5_property_1 : decode cX5_property 1 = .ok (.tableswitch 77 0 5 #[39, 44, 49, 54, 59, 64], 39) := by decide +kernel
theorem dX5_property_40 : decode cX5_property 40 = .ok (.aload_n 0, 1) := by decide +kernel
theorem dX5_property_41 : decode cX5_property 41 = .ok (.getfield 7, 3) := by decide +kernel
theorem dX5_property_44 : decode cX5_property 44 = .ok (.ireturn, 1) := by decide +kernel
theorem dX5_property_45 : decode cX5_property 45 = .ok (.aload_n 0, 1) := by decide +kernel
theorem dX5_property_46 : decode cX5_property 46 = .ok (.getfield 13, 3) := by decide +kernel
theorem dX5_property_49 : decode cX5_property 49 = .ok (.ireturn, 1) := by decide +kernel
theorem dX5_property_50 : decode cX5_property 50 = .ok (.aload_n 0, 1) := by decide +kernel
theorem dX5_property_51 : decode cX5_property 51 = .ok (.getfield 16, 3) := by decide +kernel
theorem dX5_property_54 : decode cX5_property 54 = .ok (.ireturn, 1) := by decide +kernel
theorem dX5_property_55 : decode cX5_property 55 = .ok (.aload_n 0, 1) := by decide +kernel
theorem dX5_property_56 : decode cX5_property 56 = .ok (.getfield 19, 3) := by decide +kernel
theorem dX5_property_59 : decode cX5_property 59 = .ok (.ireturn, 1) := by decide +kernel
theorem dX5_property_60 : decode cX5_property 60 = .ok (.aload_n 0, 1) := by decide +kernel
theorem dX5_property_61 : decode cX5_property 61 = .ok (.getfield 22, 3) := by decide +kernel
theorem dX5_property_64 : decode cX5_property 64 = .ok (.ireturn, 1) := by decide +kernel
theorem dX5_property_65 : decode cX5_property 65 = .ok (.aload_n 0, 1) := by decide +kernel
theorem dX5_property_66 : decode cX5_property 66 = .ok (.getfield 28, 3) := by decide +kernel
theorem dX5_property_69 : decode cX5_property 69 = .ok (.ifCond .eq 7, 3) := by decide +kernel
theorem dX5_property_72 : decode cX5_property 72 = .ok (.iconst 1, 1) := by decide +kernel
theorem dX5_property_73 : decode cX5_property 73 = .ok (.goto 4, 3) := by decide +kernel
theorem dX5_property_76 : decode cX5_property 76 = .ok (.iconst 0, 1) := by decide +kernel
theorem dX5_property_77 : decode cX5_property 77 = .ok (.ireturn, 1) := by decide +kernel
theorem dX5_property_78 : decode cX5_property 78 = .ok (.aload_n 0, 1) := by decide +kernel
theorem dX5_property_79 : decode cX5_property 79 = .ok (.getfield 32, 3) := by decide +kernel
theorem dX5_property_82 : decode cX5_property 82 = .ok (.ifCond .eq 7, 3) := by decide +kernel
theorem dX5_property_85 : decode cX5_property 85 = .ok (.iconst 1, 1) := by decide +kernel
theorem dX5_property_86 : decode cX5_property 86 = .ok (.goto 4, 3) := by decide +kernel
theorem dX5_property_89 : decode cX5_property 89 = .ok (.iconst 0, 1) := by decide +kernel
theorem dX5_property_90 : decode cX5_property 90 = .ok (.ireturn, 1) := by decide +kernel
theorem dX6_init_0 : decode cX6_init 0 = .ok (.aload_n 0, 1) := by decide +kernel
theorem dX6_init_1 : decode cX6_init 1 = .ok (.invokespecial 1, 3) := by decide +kernel
theorem dX6_init_4 : decode cX6_init 4 = .ok (.aload_n 0, 1) := by decide +kernel
theorem dX6_init_5 : decode cX6_init 5 = .ok (.new 7, 3) := by decide +kernel
theorem dX6_init_8 : decode cX6_init 8 = .ok (.dup, 1) := by decide +kernel
theorem dX6_init_9 : decode cX6_init 9 = .ok (.invokespecial 9, 3) := by decide +kernel
theorem dX6_init_12 : decode cX6_init 12 = .ok (.putfield 10, 3) := by decide +kernel
theorem dX6_init_15 : decode cX6_init 15 = .ok (.aload_n 0, 1) := by decide +kernel
theorem dX6_init_16 : decode cX6_init 16 = .ok (.new 16, 3) := by decide +kernel
theorem dX6_init_19 : decode cX6_init 19 = .ok (.dup, 1) := by decide +kernel
theorem dX6_init_20 : decode cX6_init 20 = .ok (.invokespecial 18, 3) := by decide +kernel
theorem dX6_init_23 : decode cX6_init 23 = .ok (.putfield 19, 3) := by decide +kernel
theorem dX6_init_26 : decode cX6_init 26 = .ok (.aload_n 0, 1) := by decide +kernel
theorem dX6_init_27 : decode cX6_init 27 = .ok (.new 23, 3) := by decide +kernel
theorem dX6_init_30 : decode cX6_init 30 = .ok (.dup, 1) := by decide +kernel
theorem dX6_init_31 : decode cX6_init 31 = .ok (.invokespecial 25, 3) := by decide +kernel
theorem dX6_init_34 : decode cX6_init 34 = .ok (.putfield 26, 3) := by decide +kernel
theorem dX6_init_37 : decode cX6_init 37 = .ok (.aload_n 0, 1) := by decide +kernel
theorem dX6_init_38 : decode cX6_init 38 = .ok (.new 30, 3) := by decide +kernel
theorem dX6_init_41 : decode cX6_init 41 = .ok (.dup, 1) := by decide +kernel
theorem dX6_init_42 : decode cX6_init 42 = .ok (.invokespecial 32, 3) := by decide +kernel
theorem dX6_init_45 : decode cX6_init 45 = .ok (.putfield 33, 3) := by decide +kernel
theorem dX6_init_48 : decode cX6_init 48 = .ok (.aload_n 0, 1) := by decide +kernel
theorem dX6_init_49 : decode cX6_init 49 = .ok (.new 37, 3) := by decide +kernel
theorem dX6_init_52 : decode cX6_init 52 = .ok (.dup, 1) := by decide +kernel
theorem dX6_init_53 : decode cX6_init 53 = .ok (.invokespecial 39, 3) := by decide +kernel
theorem dX6_init_56 : decode cX6_init 56 = .ok (.putfield 40, 3) := by decide +kernel
theorem dX6_init_59 : decode cX6_init 59 = .ok (.return_, 1) := by decide +kernel
theorem dX6_setBox_0 : decode cX6_setBox 0 = .ok (.iload_n 1, 1) := by decide +kernel
theorem dX6_setBox_1 : decode cX6_setBox 1 = .ok (.iconst 2, 1) := by decide +kernel
theorem dX6_setBox_2 : decode cX6_setBox 2 = .ok (.bipush 10, 2) := by decide +kernel
theorem dX6_setBox_4 : decode cX6_setBox 4 = .ok (.invokestatic 44, 3) := by decide +kernel
theorem dX6_setBox_7 : decode cX6_setBox 7 = .ok (.ifCond .eq 23, 3) := by decide +kernel
theorem dX6_setBox_10 : decode cX6_setBox 10 = .ok (.iload_n 2, 1) := by decide +kernel
theorem dX6_setBox_11 : decode cX6_setBox 11 = .ok (.iconst 2, 1) := by decide +kernel
theorem dX6_setBox_12 : decode cX6_setBox 12 = .ok (.bipush 10, 2) := by decide +kernel
theorem dX6_setBox_14 : decode cX6_setBox 14 = .ok (.invokestatic 44, 3) := by decide +kernel
theorem dX6_setBox_17 : decode cX6_setBox 17 = .ok (.ifCond .eq 13, 3) := by decide +kernel
theorem dX6_setBox_20 : decode cX6_setBox 20 = .ok (.iload_n 3, 1) := by decide +kernel
theorem dX6_setBox_21 : decode cX6_setBox 21 = .ok (.iconst 1, 1) := by decide +kernel
theorem dX6_setBox_22 : decode cX6_setBox 22 = .ok (.bipush 30, 2) := by decide +kernel
theorem dX6_setBox_24 : decode cX6_setBox 24 = .ok (.invokestatic 44, 3) := by decide +kernel
theorem dX6_setBox_27 : decode cX6_setBox 27 = .ok (.ifCond .ne 5, 3) := by decide +kernel
theorem dX6_setBox_30 : decode cX6_setBox 30 = .ok (.iconst (-1), 1) := by decide +kernel
theorem dX6_setBox_31 : decode cX6_setBox 31 = .ok (.ireturn, 1) := by decide +kernel
theorem dX6_setBox_32 : decode cX6_setBox 32 = .ok (.aload_n 0, 1) := by decide +kernel
theorem dX6_setBox_33 : decode cX6_setBox 33 = .ok (.getfield 10, 3) := by decide +kernel
theorem dX6_setBox_36 : decode cX6_setBox 36 = .ok (.invokevirtual 48, 3) := by decide +kernel
theorem dX6_setBox_39 : decode cX6_setBox 39 = .ok (.invokestatic 52, 3) := by decide +kernel
theorem dX6_setBox_42 : decode cX6_setBox 42 = .ok (.istore 4, 2) := by decide +kernel
theorem dX6_setBox_44 : decode cX6_setBox 44 = .ok (.aload_n 0, 1) := by decide +kernel
theorem dX6_setBox_45 : decode cX6_setBox 45 = .ok (.getfield 19, 3) := by decide +kernel
theorem dX6_setBox_48 : decode cX6_setBox 48 = .ok (.aload_n 0, 1) := by decide +kernel
theorem dX6_setBox_49 : decode cX6_setBox 49 = .ok (.getfield 10, 3) := by decide +kernel
theorem dX6_setBox_52 : decode cX6_setBox 52 = .ok (.invokevirtual 58, 3) := by decide +kernel
theorem dX6_setBox_55 : decode cX6_setBox 55 = .ok (.aload_n 0, 1) := by decide +kernel
theorem dX6_setBox_56 : decode cX6_setBox 56 = .ok (.getfield 10, 3) := by decide +kernel
theorem dX6_setBox_59 : decode cX6_setBox 59 = .ok (.invokevirtual 62, 3) := by decide +kernel
theorem dX6_setBox_62 : decode cX6_setBox 62 = .ok (.aload_n 0, 1) := by decide +kernel
theorem dX6_setBox_63 : decode cX6_setBox 63 = .ok (.getfield 10, 3) := by decide +kernel
theorem dX6_setBox_66 : decode cX6_setBox 66 = .ok (.iload_n 1, 1) := by decide +kernel
theorem dX6_setBox_67 : decode cX6_setBox 67 = .ok (.putfield 65, 3) := by decide +kernel
theorem dX6_setBox_70 : decode cX6_setBox 70 = .ok (.aload_n 0, 1) := by decide +kernel
theorem dX6_setBox_71 : decode cX6_setBox 71 = .ok (.getfield 10, 3) := by decide +kernel
theorem dX6_setBox_74 : decode cX6_setBox 74 = .ok (.iload_n 2, 1) := by decide +kernel
theorem dX6_setBox_75 : decode cX6_setBox 75 = .ok (.putfield 69, 3) := by decide +kernel
theorem dX6_setBox_78 : decode cX6_setBox 78 = .ok (.aload_n 0, 1) := by decide +kernel
theorem dX6_setBox_79 : decode cX6_setBox 79 = .ok (.getfield 10, 3) := by decide +kernel
theorem dX6_setBox_82 : decode cX6_setBox 82 = .ok (.iload_n 3, 1) := by decide +kernel
theorem dX6_setBox_83 : decode cX6_setBox 83 = .ok (.putfield 72, 3) := by decide +kernel
theorem dX6_setBox_86 : decode cX6_setBox 86 = .ok (.iload 4, 2) := by decide +kernel
theorem dX6_setBox_88 : decode cX6_setBox 88 = .ok (.ireturn, 1) := by decide +kernel
theorem dX6_setShare_0 : decode cX6_setShare 0 = .ok (.iload_n 1, 1) := by decide +kernel
theorem dX6_setShare_1 : decode cX6_setShare 1 = .ok (.iconst 0, 1) := by decide +kernel
theorem dX6_setShare_2 : decode cX6_setShare 2 = .ok (.bipush 100, 2) := by decide +kernel
theorem dX6_setShare_4 : decode cX6_setShare 4 = .ok (.invokestatic 44, 3) := by decide +kernel
theorem dX6_setShare_7 : decode cX6_setShare 7 = .ok (.ifCond .ne 5, 3) := by decide +kernel
theorem dX6_setShare_10 : decode cX6_setShare 10 = .ok (.iconst (-1), 1) := by decide +kernel
theorem dX6_setShare_11 : decode cX6_setShare 11 = .ok (.ireturn, 1) := by decide +kernel
theorem dX6_setShare_12 : decode cX6_setShare 12 = .ok (.aload_n 0, 1) := by decide +kernel
theorem dX6_setShare_13 : decode cX6_setShare 13 = .ok (.getfield 10, 3) := by decide +kernel
theorem dX6_setShare_16 : decode cX6_setShare 16 = .ok (.getfield 75, 3) := by decide +kernel
theorem dX6_setShare_19 : decode cX6_setShare 19 = .ok (.istore_n 2, 1) := by decide +kernel
theorem dX6_setShare_20 : decode cX6_setShare 20 = .ok (.aload_n 0, 1) := by decide +kernel
theorem dX6_setShare_21 : decode cX6_setShare 21 = .ok (.getfield 19, 3) := by decide +kernel
theorem dX6_setShare_24 : decode cX6_setShare 24 = .ok (.aload_n 0, 1) := by decide +kernel
theorem dX6_setShare_25 : decode cX6_setShare 25 = .ok (.getfield 10, 3) := by decide +kernel
theorem dX6_setShare_28 : decode cX6_setShare 28 = .ok (.invokevirtual 58, 3) := by decide +kernel
theorem dX6_setShare_31 : decode cX6_setShare 31 = .ok (.aload_n 0, 1) := by decide +kernel
theorem dX6_setShare_32 : decode cX6_setShare 32 = .ok (.getfield 10, 3) := by decide +kernel
theorem dX6_setShare_35 : decode cX6_setShare 35 = .ok (.iload_n 1, 1) := by decide +kernel
theorem dX6_setShare_36 : decode cX6_setShare 36 = .ok (.putfield 75, 3) := by decide +kernel
theorem dX6_setShare_39 : decode cX6_setShare 39 = .ok (.iload_n 2, 1) := by decide +kernel
theorem dX6_setShare_40 : decode cX6_setShare 40 = .ok (.ireturn, 1) := by decide +kernel
theorem dX6_type_0 : decode cX6_type 0 = .ok (.iload_n 1, 1) := by decide +kernel
theorem dX6_type_1 : decode cX6_type 1 = .ok (.bipush 32, 2) := by decide +kernel
theorem dX6_type_3 : decode cX6_type 3 = .ok (.bipush 126, 2) := by decide +kernel
theorem dX6_type_5 : decode cX6_type 5 = .ok (.invokestatic 44, 3) := by decide +kernel
theorem dX6_type_8 : decode cX6_type 8 = .ok (.ifCond .ne 5, 3) := by decide +kernel
theorem dX6_type_11 : decode cX6_type 11 = .ok (.iconst (-1), 1) := by decide +kernel
theorem dX6_type_12 : decode cX6_type 12 = .ok (.ireturn, 1) := by decide +kernel
theorem dX6_type_13 : decode cX6_type 13 = .ok (.aload_n 0, 1) := by decide +kernel
theorem dX6_type_14 : decode cX6_type 14 = .ok (.getfield 26, 3) := by decide +kernel
theorem dX6_type_17 : decode cX6_type 17 = .ok (.getfield 78, 3) := by decide +kernel
theorem dX6_type_20 : decode cX6_type 20 = .ok (.bipush 100, 2) := by decide +kernel
theorem dX6_type_22 : decode cX6_type 22 = .ok (.if_icmp .lt 6, 3) := by decide +kernel
theorem dX6_type_25 : decode cX6_type 25 = .ok (.bipush (-3), 2) := by decide +kernel
theorem dX6_type_27 : decode cX6_type 27 = .ok (.ireturn, 1) := by decide +kernel
theorem dX6_type_28 : decode cX6_type 28 = .ok (.aload_n 0, 1) := by decide +kernel
theorem dX6_type_29 : decode cX6_type 29 = .ok (.getfield 26, 3) := by decide +kernel
theorem dX6_type_32 : decode cX6_type 32 = .ok (.iload_n 1, 1) := by decide +kernel
theorem dX6_type_33 : decode cX6_type 33 = .ok (.i2c, 1) := by decide +kernel
theorem dX6_type_34 : decode cX6_type 34 = .ok (.invokevirtual 79, 3) := by decide +kernel
theorem dX6_type_37 : decode cX6_type 37 = .ok (.aload_n 0, 1) := by decide +kernel
theorem dX6_type_38 : decode cX6_type 38 = .ok (.getfield 26, 3) := by decide +kernel
theorem dX6_type_41 : decode cX6_type 41 = .ok (.getfield 78, 3) := by decide +kernel
theorem dX6_type_44 : decode cX6_type 44 = .ok (.ireturn, 1) := by decide +kernel
theorem dX6_clearText_0 : decode cX6_clearText 0 = .ok (.aload_n 0, 1) := by decide +kernel
theorem dX6_clearText_1 : decode cX6_clearText 1 = .ok (.getfield 26, 3) := by decide +kernel
theorem dX6_clearText_4 : decode cX6_clearText 4 = .ok (.getfield 78, 3) := by decide +kernel
theorem dX6_clearText_7 : decode cX6_clearText 7 = .ok (.istore_n 1, 1) := by decide +kernel
theorem dX6_clearText_8 : decode cX6_clearText 8 = .ok (.aload_n 0, 1) := by decide +kernel
theorem dX6_clearText_9 : decode cX6_clearText 9 = .ok (.getfield 26, 3) := by decide +kernel
theorem dX6_clearText_12 : decode cX6_clearText 12 = .ok (.iconst 0, 1) := by decide +kernel
theorem dX6_clearText_13 : decode cX6_clearText 13 = .ok (.putfield 78, 3) := by decide +kernel
theorem dX6_clearText_16 : decode cX6_clearText 16 = .ok (.iload_n 1, 1) := by decide +kernel
theorem dX6_clearText_17 : decode cX6_clearText 17 = .ok (.ireturn, 1) := by decide +kernel
theorem dX6_load_0 : decode cX6_load 0 = .ok (.aload_n 0, 1) := by decide +kernel
theorem dX6_load_1 : decode cX6_load 1 = .ok (.getfield 26, 3) := by decide +kernel
theorem dX6_load_4 : decode cX6_load 4 = .ok (.invokevirtual 83, 3) := by decide +kernel
theorem dX6_load_7 : decode cX6_load 7 = .ok (.istore_n 1, 1) := by decide +kernel
theorem dX6_load_8 : decode cX6_load 8 = .ok (.iload_n 1, 1) := by decide +kernel
theorem dX6_load_9 : decode cX6_load 9 = .ok (.ifCond .lt 28, 3) := by decide +kernel
theorem dX6_load_12 : decode cX6_load 12 = .ok (.aload_n 0, 1) := by decide +kernel
theorem dX6_load_13 : decode cX6_load 13 = .ok (.getfield 19, 3) := by decide +kernel
theorem dX6_load_16 : decode cX6_load 16 = .ok (.aload_n 0, 1) := by decide +kernel
theorem dX6_load_17 : decode cX6_load 17 = .ok (.getfield 10, 3) := by decide +kernel
theorem dX6_load_20 : decode cX6_load 20 = .ok (.invokevirtual 58, 3) := by decide +kernel
theorem dX6_load_23 : decode cX6_load 23 = .ok (.aload_n 0, 1) := by decide +kernel
theorem dX6_load_24 : decode cX6_load 24 = .ok (.getfield 10, 3) := by decide +kernel
theorem dX6_load_27 : decode cX6_load 27 = .ok (.aload_n 0, 1) := by decide +kernel
theorem dX6_load_28 : decode cX6_load 28 = .ok (.getfield 26, 3) := by decide +kernel
theorem dX6_load_31 : decode cX6_load 31 = .ok (.getfield 86, 3) := by decide +kernel
theorem dX6_load_34 : decode cX6_load 34 = .ok (.invokevirtual 89, 3) := by decide +kernel
theorem dX6_load_37 : decode cX6_load 37 = .ok (.iload_n 1, 1) := by decide +kernel
theorem dX6_load_38 : decode cX6_load 38 = .ok (.ireturn, 1) := by decide +kernel
theorem dX6_faultKind_0 : decode cX6_faultKind 0 = .ok (.aload_n 0, 1) := by decide +kernel
theorem dX6_faultKind_1 : decode cX6_faultKind 1 = .ok (.getfield 26, 3) := by decide +kernel
theorem dX6_faultKind_4 : decode cX6_faultKind 4 = .ok (.getfield 92, 3) := by decide +kernel
theorem dX6_faultKind_7 : decode cX6_faultKind 7 = .ok (.ireturn, 1) := by decide +kernel
theorem dX6_add_0 : decode cX6_add 0 = .ok (.iload_n 1, 1) := by decide +kernel
theorem dX6_add_1 : decode cX6_add 1 = .ok (.iconst 1, 1) := by decide +kernel
theorem dX6_add_2 : decode cX6_add 2 = .ok (.bipush 10, 2) := by decide +kernel
theorem dX6_add_4 : decode cX6_add 4 = .ok (.invokestatic 44, 3) := by decide +kernel
theorem dX6_add_7 : decode cX6_add 7 = .ok (.ifCond .eq 34, 3) := by decide +kernel
theorem dX6_add_10 : decode cX6_add 10 = .ok (.iload_n 2, 1) := by decide +kernel
theorem dX6_add_11 : decode cX6_add 11 = .ok (.iconst 1, 1) := by decide +kernel
theorem dX6_add_12 : decode cX6_add 12 = .ok (.bipush 10, 2) := by decide +kernel
theorem dX6_add_14 : decode cX6_add 14 = .ok (.invokestatic 44, 3) := by decide +kernel
theorem dX6_add_17 : decode cX6_add 17 = .ok (.ifCond .eq 24, 3) := by decide +kernel
theorem dX6_add_20 : decode cX6_add 20 = .ok (.iload_n 3, 1) := by decide +kernel
theorem dX6_add_21 : decode cX6_add 21 = .ok (.iconst 1, 1) := by decide +kernel
theorem dX6_add_22 : decode cX6_add 22 = .ok (.bipush 9, 2) := by decide +kernel
theorem dX6_add_24 : decode cX6_add 24 = .ok (.invokestatic 44, 3) := by decide +kernel
theorem dX6_add_27 : decode cX6_add 27 = .ok (.ifCond .eq 14, 3) := by decide +kernel
theorem dX6_add_30 : decode cX6_add 30 = .ok (.iload 4, 2) := by decide +kernel
theorem dX6_add_32 : decode cX6_add 32 = .ok (.iconst 0, 1) := by decide +kernel
theorem dX6_add_33 : decode cX6_add 33 = .ok (.bipush 9, 2) := by decide +kernel
theorem dX6_add_35 : decode cX6_add 35 = .ok (.invokestatic 44, 3) := by decide +kernel
theorem dX6_add_38 : decode cX6_add 38 = .ok (.ifCond .ne 5, 3) := by decide +kernel
theorem dX6_add_41 : decode cX6_add 41 = .ok (.iconst (-1), 1) := by decide +kernel
theorem dX6_add_42 : decode cX6_add 42 = .ok (.ireturn, 1) := by decide +kernel
theorem dX6_add_43 : decode cX6_add 43 = .ok (.aload_n 0, 1) := by decide +kernel
theorem dX6_add_44 : decode cX6_add 44 = .ok (.getfield 10, 3) := by decide +kernel
theorem dX6_add_47 : decode cX6_add 47 = .ok (.getfield 95, 3) := by decide +kernel
theorem dX6_add_50 : decode cX6_add 50 = .ok (.bipush 12, 2) := by decide +kernel
theorem dX6_add_52 : decode cX6_add 52 = .ok (.if_icmp .lt 6, 3) := by decide +kernel
theorem dX6_add_55 : decode cX6_add 55 = .ok (.bipush (-3), 2) := by decide +kernel
theorem dX6_add_57 : decode cX6_add 57 = .ok (.ireturn, 1) := by decide +kernel
theorem dX6_add_58 : decode cX6_add 58 = .ok (.aload_n 0, 1) := by decide +kernel
theorem dX6_add_59 : decode cX6_add 59 = .ok (.getfield 19, 3) := by decide +kernel
theorem dX6_add_62 : decode cX6_add 62 = .ok (.aload_n 0, 1) := by decide +kernel
theorem dX6_add_63 : decode cX6_add 63 = .ok (.getfield 10, 3) := by decide +kernel
theorem dX6_add_66 : decode cX6_add 66 = .ok (.invokevirtual 58, 3) := by decide +kernel
theorem dX6_add_69 : decode cX6_add 69 = .ok (.aload_n 0, 1) := by decide +kernel
theorem dX6_add_70 : decode cX6_add 70 = .ok (.getfield 10, 3) := by decide +kernel
theorem dX6_add_73 : decode cX6_add 73 = .ok (.getfield 98, 3) := by decide +kernel
theorem dX6_add_76 : decode cX6_add 76 = .ok (.aload_n 0, 1) := by decide +kernel
theorem dX6_add_77 : decode cX6_add 77 = .ok (.getfield 10, 3) := by decide +kernel
theorem dX6_add_80 : decode cX6_add 80 = .ok (.getfield 95, 3) := by decide +kernel
theorem dX6_add_83 : decode cX6_add 83 = .ok (.aaload, 1) := by decide +kernel
theorem dX6_add_84 : decode cX6_add 84 = .ok (.iload_n 1, 1) := by decide +kernel
theorem dX6_add_85 : decode cX6_add 85 = .ok (.iload_n 2, 1) := by decide +kernel
theorem dX6_add_86 : decode cX6_add 86 = .ok (.iload_n 3, 1) := by decide +kernel
theorem dX6_add_87 : decode cX6_add 87 = .ok (.iload 4, 2) := by decide +kernel
theorem dX6_add_89 : decode cX6_add 89 = .ok (.invokevirtual 102, 3) := by decide +kernel
theorem dX6_add_92 : decode cX6_add 92 = .ok (.aload_n 0, 1) := by decide +kernel
theorem dX6_add_93 : decode cX6_add 93 = .ok (.getfield 10, 3) := by decide +kernel
theorem dX6_add_96 : decode cX6_add 96 = .ok (.dup, 1) := by decide +kernel
theorem dX6_add_97 : decode cX6_add 97 = .ok (.getfield 95, 3) := by decide +kernel
theorem dX6_add_100 : decode cX6_add 100 = .ok (.iconst 1, 1) := by decide +kernel
theorem dX6_add_101 : decode cX6_add 101 = .ok (.iadd, 1) := by decide +kernel
theorem dX6_add_102 : decode cX6_add 102 = .ok (.putfield 95, 3) := by decide +kernel
theorem dX6_add_105 : decode cX6_add 105 = .ok (.aload_n 0, 1) := by decide +kernel
theorem dX6_add_106 : decode cX6_add 106 = .ok (.getfield 10, 3) := by decide +kernel
theorem dX6_add_109 : decode cX6_add 109 = .ok (.getfield 95, 3) := by decide +kernel
theorem dX6_add_112 : decode cX6_add 112 = .ok (.iconst 1, 1) := by decide +kernel
theorem dX6_add_113 : decode cX6_add 113 = .ok (.isub, 1) := by decide +kernel
theorem dX6_add_114 : decode cX6_add 114 = .ok (.ireturn, 1) := by decide +kernel
theorem dX6_drop_0 : decode cX6_drop 0 = .ok (.aload_n 0, 1) := by decide +kernel
theorem dX6_drop_1 : decode cX6_drop 1 = .ok (.getfield 10, 3) := by decide +kernel
theorem dX6_drop_4 : decode cX6_drop 4 = .ok (.iload_n 1, 1) := by decide +kernel
theorem dX6_drop_5 : decode cX6_drop 5 = .ok (.invokevirtual 108, 3) := by decide +kernel
theorem dX6_drop_8 : decode cX6_drop 8 = .ok (.ifCond .ne 5, 3) := by decide +kernel
theorem dX6_drop_11 : decode cX6_drop 11 = .ok (.iconst (-1), 1) := by decide +kernel
theorem dX6_drop_12 : decode cX6_drop 12 = .ok (.ireturn, 1) := by decide +kernel
theorem dX6_drop_13 : decode cX6_drop 13 = .ok (.aload_n 0, 1) := by decide +kernel
theorem dX6_drop_14 : decode cX6_drop 14 = .ok (.getfield 10, 3) := by decide +kernel
theorem dX6_drop_17 : decode cX6_drop 17 = .ok (.getfield 98, 3) := by decide +kernel
theorem dX6_drop_20 : decode cX6_drop 20 = .ok (.iload_n 1, 1) := by decide +kernel
theorem dX6_drop_21 : decode cX6_drop 21 = .ok (.aaload, 1) := by decide +kernel
theorem dX6_drop_22 : decode cX6_drop 22 = .ok (.getfield 112, 3) := by decide +kernel
theorem dX6_drop_25 : decode cX6_drop 25 = .ok (.ifCond .eq 6, 3) := by decide +kernel
theorem dX6_drop_28 : decode cX6_drop 28 = .ok (.bipush (-2), 2) := by decide +kernel
theorem dX6_drop_30 : decode cX6_drop 30 = .ok (.ireturn, 1) := by decide +kernel
theorem dX6_drop_31 : decode cX6_drop 31 = .ok (.aload_n 0, 1) := by decide +kernel
theorem dX6_drop_32 : decode cX6_drop 32 = .ok (.getfield 19, 3) := by decide +kernel
theorem dX6_drop_35 : decode cX6_drop 35 = .ok (.aload_n 0, 1) := by decide +kernel
theorem dX6_drop_36 : decode cX6_drop 36 = .ok (.getfield 10, 3) := by decide +kernel
theorem dX6_drop_39 : decode cX6_drop 39 = .ok (.invokevirtual 58, 3) := by decide +kernel
theorem dX6_drop_42 : decode cX6_drop 42 = .ok (.aload_n 0, 1) := by decide +kernel
theorem dX6_drop_43 : decode cX6_drop 43 = .ok (.getfield 10, 3) := by decide +kernel
theorem dX6_drop_46 : decode cX6_drop 46 = .ok (.iload_n 1, 1) := by decide +kernel
theorem dX6_drop_47 : decode cX6_drop 47 = .ok (.invokevirtual 115, 3) := by decide +kernel
theorem dX6_drop_50 : decode cX6_drop 50 = .ok (.aload_n 0, 1) := by decide +kernel
theorem dX6_drop_51 : decode cX6_drop 51 = .ok (.getfield 10, 3) := by decide +kernel
theorem dX6_drop_54 : decode cX6_drop 54 = .ok (.getfield 95, 3) := by decide +kernel
theorem dX6_drop_57 : decode cX6_drop 57 = .ok (.ireturn, 1) := by decide +kernel
theorem dX6_setTray_0 : decode cX6_setTray 0 = .ok (.aload_n 0, 1) := by decide +kernel
theorem dX6_setTray_1 : decode cX6_setTray 1 = .ok (.getfield 10, 3) := by decide +kernel
theorem dX6_setTray_4 : decode cX6_setTray 4 = .ok (.iload_n 1, 1) := by decide +kernel
theorem dX6_setTray_5 : decode cX6_setTray 5 = .ok (.invokevirtual 108, 3) := by decide +kernel
theorem dX6_setTray_8 : decode cX6_setTray 8 = .ok (.ifCond .eq 30, 3) := by decide +kernel
theorem dX6_setTray_11 : decode cX6_setTray 11 = .ok (.iload_n 2, 1) := by decide +kernel
theorem dX6_setTray_12 : decode cX6_setTray 12 = .ok (.iconst 0, 1) := by decide +kernel
theorem dX6_setTray_13 : decode cX6_setTray 13 = .ok (.iconst 1, 1) := by decide +kernel
theorem dX6_setTray_14 : decode cX6_setTray 14 = .ok (.invokestatic 44, 3) := by decide +kernel
theorem dX6_setTray_17 : decode cX6_setTray 17 = .ok (.ifCond .eq 21, 3) := by decide +kernel
theorem dX6_setTray_20 : decode cX6_setTray 20 = .ok (.iload_n 3, 1) := by decide +kernel
theorem dX6_setTray_21 : decode cX6_setTray 21 = .ok (.iconst 0, 1) := by decide +kernel
theorem dX6_setTray_22 : decode cX6_setTray 22 = .ok (.iload_n 2, 1) := by decide +kernel
theorem dX6_setTray_23 : decode cX6_setTray 23 = .ok (.ifCond .ne 8, 3) := by decide +kernel
theorem dX6_setTray_26 : decode cX6_setTray 26 = .ok (.bipush 9, 2) := by decide +kernel
theorem dX6_setTray_28 : decode cX6_setTray 28 = .ok (.goto 4, 3) := by decide +kernel
theorem dX6_setTray_31 : decode cX6_setTray 31 = .ok (.iconst 1, 1) := by decide +kernel
theorem dX6_setTray_32 : decode cX6_setTray 32 = .ok (.invokestatic 44, 3) := by decide +kernel
theorem dX6_setTray_35 : decode cX6_setTray 35 = .ok (.ifCond .ne 5, 3) := by decide +kernel
theorem dX6_setTray_38 : decode cX6_setTray 38 = .ok (.iconst (-1), 1) := by decide +kernel
theorem dX6_setTray_39 : decode cX6_setTray 39 = .ok (.ireturn, 1) := by decide +kernel
theorem dX6_setTray_40 : decode cX6_setTray 40 = .ok (.aload_n 0, 1) := by decide +kernel
theorem dX6_setTray_41 : decode cX6_setTray 41 = .ok (.getfield 10, 3) := by decide +kernel
theorem dX6_setTray_44 : decode cX6_setTray 44 = .ok (.getfield 98, 3) := by decide +kernel
theorem dX6_setTray_47 : decode cX6_setTray 47 = .ok (.iload_n 1, 1) := by decide +kernel
theorem dX6_setTray_48 : decode cX6_setTray 48 = .ok (.aaload, 1) := by decide +kernel
theorem dX6_setTray_49 : decode cX6_setTray 49 = .ok (.astore 4, 2) := by decide +kernel
theorem dX6_setTray_51 : decode cX6_setTray 51 = .ok (.iload_n 2, 1) := by decide +kernel
theorem dX6_setTray_52 : decode cX6_setTray 52 = .ok (.iconst 1, 1) := by decide +kernel
theorem dX6_setTray_53 : decode cX6_setTray 53 = .ok (.if_icmp .ne 14, 3) := by decide +kernel
theorem dX6_setTray_56 : decode cX6_setTray 56 = .ok (.aload 4, 2) := by decide +kernel
theorem dX6_setTray_58 : decode cX6_setTray 58 = .ok (.getfield 112, 3) := by decide +kernel
theorem dX6_setTray_61 : decode cX6_setTray 61 = .ok (.ifCond .eq 6, 3) := by decide +kernel
theorem dX6_setTray_64 : decode cX6_setTray 64 = .ok (.bipush (-2), 2) := by decide +kernel
theorem dX6_setTray_66 : decode cX6_setTray 66 = .ok (.ireturn, 1) := by decide +kernel
theorem dX6_setTray_67 : decode cX6_setTray 67 = .ok (.iload_n 2, 1) := by decide +kernel
theorem dX6_setTray_68 : decode cX6_setTray 68 = .ok (.ifCond .ne 11, 3) := by decide +kernel
theorem dX6_setTray_71 : decode cX6_setTray 71 = .ok (.aload 4, 2) := by decide +kernel
theorem dX6_setTray_73 : decode cX6_setTray 73 = .ok (.getfield 119, 3) := by decide +kernel
theorem dX6_setTray_76 : decode cX6_setTray 76 = .ok (.goto 8, 3) := by decide +kernel
theorem dX6_setTray_79 : decode cX6_setTray 79 = .ok (.aload 4, 2) := by decide +kernel
theorem dX6_setTray_81 : decode cX6_setTray 81 = .ok (.getfield 122, 3) := by decide +kernel
theorem dX6_setTray_84 : decode cX6_setTray 84 = .ok (.istore 5, 2) := by decide +kernel
theorem dX6_setTray_86 : decode cX6_setTray 86 = .ok (.aload_n 0, 1) := by decide +kernel
theorem dX6_setTray_87 : decode cX6_setTray 87 = .ok (.getfield 19, 3) := by decide +kernel
theorem dX6_setTray_90 : decode cX6_setTray 90 = .ok (.aload_n 0, 1) := by decide +kernel
theorem dX6_setTray_91 : decode cX6_setTray 91 = .ok (.getfield 10, 3) := by decide +kernel
theorem dX6_setTray_94 : decode cX6_setTray 94 = .ok (.invokevirtual 58, 3) := by decide +kernel
theorem dX6_setTray_97 : decode cX6_setTray 97 = .ok (.iload_n 2, 1) := by decide +kernel
theorem dX6_setTray_98 : decode cX6_setTray 98 = .ok (.ifCond .ne 12, 3) := by decide +kernel
theorem dX6_setTray_101 : decode cX6_setTray 101 = .ok (.aload 4, 2) := by decide +kernel
theorem dX6_setTray_103 : decode cX6_setTray 103 = .ok (.iload_n 3, 1) := by decide +kernel
theorem dX6_setTray_104 : decode cX6_setTray 104 = .ok (.putfield 119, 3) := by decide +kernel
theorem dX6_setTray_107 : decode cX6_setTray 107 = .ok (.goto 9, 3) := by decide +kernel
theorem dX6_setTray_110 : decode cX6_setTray 110 = .ok (.aload 4, 2) := by decide +kernel
theorem dX6_setTray_112 : decode cX6_setTray 112 = .ok (.iload_n 3, 1) := by decide +kernel
theorem dX6_setTray_113 : decode cX6_setTray 113 = .ok (.putfield 122, 3) := by decide +kernel
theorem dX6_setTray_116 : decode cX6_setTray 116 = .ok (.iload 5, 2) := by decide +kernel
theorem dX6_setTray_118 : decode cX6_setTray 118 = .ok (.ireturn, 1) := by decide +kernel
theorem dX6_letDown_0 : decode cX6_letDown 0 = .ok (.aload_n 0, 1) := by decide +kernel
theorem dX6_letDown_1 : decode cX6_letDown 1 = .ok (.getfield 10, 3) := by decide +kernel
theorem dX6_letDown_4 : decode cX6_letDown 4 = .ok (.iload_n 1, 1) := by decide +kernel
theorem dX6_letDown_5 : decode cX6_letDown 5 = .ok (.invokevirtual 108, 3) := by decide +kernel
theorem dX6_letDown_8 : decode cX6_letDown 8 = .ok (.ifCond .eq 26, 3) := by decide +kernel
theorem dX6_letDown_11 : decode cX6_letDown 11 = .ok (.aload_n 0, 1) := by decide +kernel
theorem dX6_letDown_12 : decode cX6_letDown 12 = .ok (.getfield 10, 3) := by decide +kernel
theorem dX6_letDown_15 : decode cX6_letDown 15 = .ok (.aload_n 0, 1) := by decide +kernel
theorem dX6_letDown_16 : decode cX6_letDown 16 = .ok (.getfield 10, 3) := by decide +kernel
theorem dX6_letDown_19 : decode cX6_letDown 19 = .ok (.getfield 98, 3) := by decide +kernel
theorem dX6_letDown_22 : decode cX6_letDown 22 = .ok (.iload_n 1, 1) := by decide +kernel
theorem dX6_letDown_23 : decode cX6_letDown 23 = .ok (.aaload, 1) := by decide +kernel
theorem dX6_letDown_24 : decode cX6_letDown 24 = .ok (.iload_n 2, 1) := by decide +kernel
theorem dX6_letDown_25 : decode cX6_letDown 25 = .ok (.iload_n 3, 1) := by decide +kernel
theorem dX6_letDown_26 : decode cX6_letDown 26 = .ok (.iload 4, 2) := by decide +kernel
theorem dX6_letDown_28 : decode cX6_letDown 28 = .ok (.invokevirtual 125, 3) := by decide +kernel
theorem dX6_letDown_31 : decode cX6_letDown 31 = .ok (.ifCond .ne 5, 3) := by decide +kernel
theorem dX6_letDown_34 : decode cX6_letDown 34 = .ok (.iconst (-1), 1) := by decide +kernel
theorem dX6_letDown_35 : decode cX6_letDown 35 = .ok (.ireturn, 1) := by decide +kernel
theorem dX6_letDown_36 : decode cX6_letDown 36 = .ok (.aload_n 0, 1) := by decide +kernel
theorem dX6_letDown_37 : decode cX6_letDown 37 = .ok (.getfield 10, 3) := by decide +kernel
theorem dX6_letDown_40 : decode cX6_letDown 40 = .ok (.getfield 98, 3) := by decide +kernel
theorem dX6_letDown_43 : decode cX6_letDown 43 = .ok (.iload_n 1, 1) := by decide +kernel
theorem dX6_letDown_44 : decode cX6_letDown 44 = .ok (.aaload, 1) := by decide +kernel
theorem dX6_letDown_45 : decode cX6_letDown 45 = .ok (.astore 5, 2) := by decide +kernel
theorem dX6_letDown_47 : decode cX6_letDown 47 = .ok (.aload 5, 2) := by decide +kernel
theorem dX6_letDown_49 : decode cX6_letDown 49 = .ok (.getfield 112, 3) := by decide +kernel
theorem dX6_letDown_52 : decode cX6_letDown 52 = .ok (.ifCond .eq 6, 3) := by decide +kernel
theorem dX6_letDown_55 : decode cX6_letDown 55 = .ok (.bipush (-2), 2) := by decide +kernel
theorem dX6_letDown_57 : decode cX6_letDown 57 = .ok (.ireturn, 1) := by decide +kernel
theorem dX6_letDown_58 : decode cX6_letDown 58 = .ok (.aload_n 0, 1) := by decide +kernel
theorem dX6_letDown_59 : decode cX6_letDown 59 = .ok (.getfield 33, 3) := by decide +kernel
theorem dX6_letDown_62 : decode cX6_letDown 62 = .ok (.aload_n 0, 1) := by decide +kernel
theorem dX6_letDown_63 : decode cX6_letDown 63 = .ok (.getfield 10, 3) := by decide +kernel
theorem dX6_letDown_66 : decode cX6_letDown 66 = .ok (.invokevirtual 129, 3) := by decide +kernel
theorem dX6_letDown_69 : decode cX6_letDown 69 = .ok (.aload_n 0, 1) := by decide +kernel
theorem dX6_letDown_70 : decode cX6_letDown 70 = .ok (.getfield 33, 3) := by decide +kernel
theorem dX6_letDown_73 : decode cX6_letDown 73 = .ok (.aload_n 0, 1) := by decide +kernel
theorem dX6_letDown_74 : decode cX6_letDown 74 = .ok (.getfield 10, 3) := by decide +kernel
theorem dX6_letDown_77 : decode cX6_letDown 77 = .ok (.aload 5, 2) := by decide +kernel
theorem dX6_letDown_79 : decode cX6_letDown 79 = .ok (.iload_n 2, 1) := by decide +kernel
theorem dX6_letDown_80 : decode cX6_letDown 80 = .ok (.iload_n 3, 1) := by decide +kernel
theorem dX6_letDown_81 : decode cX6_letDown 81 = .ok (.iload 4, 2) := by decide +kernel
theorem dX6_letDown_83 : decode cX6_letDown 83 = .ok (.aload_n 0, 1) := by decide +kernel
theorem dX6_letDown_84 : decode cX6_letDown 84 = .ok (.getfield 10, 3) := by decide +kernel
theorem dX6_letDown_87 : decode cX6_letDown 87 = .ok (.aload 5, 2) := by decide +kernel
theorem dX6_letDown_89 : decode cX6_letDown 89 = .ok (.invokevirtual 132, 3) := by decide +kernel
theorem dX6_letDown_92 : decode cX6_letDown 92 = .ok (.invokevirtual 136, 3) := by decide +kernel
theorem dX6_letDown_95 : decode cX6_letDown 95 = .ok (.ifCond .ne 6, 3) := by decide +kernel
theorem dX6_letDown_98 : decode cX6_letDown 98 = .ok (.bipush (-3), 2) := by decide +kernel
theorem dX6_letDown_100 : decode cX6_letDown 100 = .ok (.ireturn, 1) := by decide +kernel
theorem dX6_letDown_101 : decode cX6_letDown 101 = .ok (.aload_n 0, 1) := by decide +kernel
theorem dX6_letDown_102 : decode cX6_letDown 102 = .ok (.getfield 19, 3) := by decide +kernel
theorem dX6_letDown_105 : decode cX6_letDown 105 = .ok (.aload_n 0, 1) := by decide +kernel
theorem dX6_letDown_106 : decode cX6_letDown 106 = .ok (.getfield 10, 3) := by decide +kernel
theorem dX6_letDown_109 : decode cX6_letDown 109 = .ok (.invokevirtual 58, 3) := by decide +kernel
theorem dX6_letDown_112 : decode cX6_letDown 112 = .ok (.aload 5, 2) := by decide +kernel
theorem dX6_letDown_114 : decode cX6_letDown 114 = .ok (.iload_n 2, 1) := by decide +kernel
theorem dX6_letDown_115 : decode cX6_letDown 115 = .ok (.iload_n 3, 1) := by decide +kernel
theorem dX6_letDown_116 : decode cX6_letDown 116 = .ok (.iload 4, 2) := by decide +kernel
theorem dX6_letDown_118 : decode cX6_letDown 118 = .ok (.aload_n 0, 1) := by decide +kernel
theorem dX6_letDown_119 : decode cX6_letDown 119 = .ok (.getfield 33, 3) := by decide +kernel
theorem dX6_letDown_122 : decode cX6_letDown 122 = .ok (.getfield 140, 3) := by decide +kernel
theorem dX6_letDown_125 : decode cX6_letDown 125 = .ok (.aload_n 0, 1) := by decide +kernel
theorem dX6_letDown_126 : decode cX6_letDown 126 = .ok (.getfield 33, 3) := by decide +kernel
theorem dX6_letDown_129 : decode cX6_letDown 129 = .ok (.getfield 143, 3) := by decide +kernel
theorem dX6_letDown_132 : decode cX6_letDown 132 = .ok (.invokevirtual 146, 3) := by decide +kernel
theorem dX6_letDown_135 : decode cX6_letDown 135 = .ok (.aload 5, 2) := by decide +kernel
theorem dX6_letDown_137 : decode cX6_letDown 137 = .ok (.getfield 150, 3) := by decide +kernel
theorem dX6_letDown_140 : decode cX6_letDown 140 = .ok (.ireturn, 1) := by decide +kernel
theorem dX6_takeOut_0 : decode cX6_takeOut 0 = .ok (.aload_n 0, 1) := by decide +kernel
theorem dX6_takeOut_1 : decode cX6_takeOut 1 = .ok (.getfield 10, 3) := by decide +kernel
theorem dX6_takeOut_4 : decode cX6_takeOut 4 = .ok (.iload_n 1, 1) := by decide +kernel
theorem dX6_takeOut_5 : decode cX6_takeOut 5 = .ok (.invokevirtual 108, 3) := by decide +kernel
theorem dX6_takeOut_8 : decode cX6_takeOut 8 = .ok (.ifCond .ne 5, 3) := by decide +kernel
theorem dX6_takeOut_11 : decode cX6_takeOut 11 = .ok (.iconst (-1), 1) := by decide +kernel
theorem dX6_takeOut_12 : decode cX6_takeOut 12 = .ok (.ireturn, 1) := by decide +kernel
theorem dX6_takeOut_13 : decode cX6_takeOut 13 = .ok (.aload_n 0, 1) := by decide +kernel
theorem dX6_takeOut_14 : decode cX6_takeOut 14 = .ok (.getfield 10, 3) := by decide +kernel
theorem dX6_takeOut_17 : decode cX6_takeOut 17 = .ok (.getfield 98, 3) := by decide +kernel
theorem dX6_takeOut_20 : decode cX6_takeOut 20 = .ok (.iload_n 1, 1) := by decide +kernel
theorem dX6_takeOut_21 : decode cX6_takeOut 21 = .ok (.aaload, 1) := by decide +kernel
theorem dX6_takeOut_22 : decode cX6_takeOut 22 = .ok (.astore_n 2, 1) := by decide +kernel
theorem dX6_takeOut_23 : decode cX6_takeOut 23 = .ok (.aload_n 2, 1) := by decide +kernel
theorem dX6_takeOut_24 : decode cX6_takeOut 24 = .ok (.getfield 112, 3) := by decide +kernel
theorem dX6_takeOut_27 : decode cX6_takeOut 27 = .ok (.ifCond .eq 14, 3) := by decide +kernel
theorem dX6_takeOut_30 : decode cX6_takeOut 30 = .ok (.aload_n 0, 1) := by decide +kernel
theorem dX6_takeOut_31 : decode cX6_takeOut 31 = .ok (.getfield 10, 3) := by decide +kernel
theorem dX6_takeOut_34 : decode cX6_takeOut 34 = .ok (.iload_n 1, 1) := by decide +kernel
theorem dX6_takeOut_35 : decode cX6_takeOut 35 = .ok (.invokevirtual 151, 3) := by decide +kernel
theorem dX6_takeOut_38 : decode cX6_takeOut 38 = .ok (.ifCond .ne 6, 3) := by decide +kernel
theorem dX6_takeOut_41 : decode cX6_takeOut 41 = .ok (.bipush (-2), 2) := by decide +kernel
theorem dX6_takeOut_43 : decode cX6_takeOut 43 = .ok (.ireturn, 1) := by decide +kernel
theorem dX6_takeOut_44 : decode cX6_takeOut 44 = .ok (.aload_n 0, 1) := by decide +kernel
theorem dX6_takeOut_45 : decode cX6_takeOut 45 = .ok (.getfield 19, 3) := by decide +kernel
theorem dX6_takeOut_48 : decode cX6_takeOut 48 = .ok (.aload_n 0, 1) := by decide +kernel
theorem dX6_takeOut_49 : decode cX6_takeOut 49 = .ok (.getfield 10, 3) := by decide +kernel
theorem dX6_takeOut_52 : decode cX6_takeOut 52 = .ok (.invokevirtual 58, 3) := by decide +kernel
theorem dX6_takeOut_55 : decode cX6_takeOut 55 = .ok (.aload_n 2, 1) := by decide +kernel
theorem dX6_takeOut_56 : decode cX6_takeOut 56 = .ok (.invokevirtual 154, 3) := by decide +kernel
theorem dX6_takeOut_59 : decode cX6_takeOut 59 = .ok (.aload_n 2, 1) := by decide +kernel
theorem dX6_takeOut_60 : decode cX6_takeOut 60 = .ok (.getfield 150, 3) := by decide +kernel
theorem dX6_takeOut_63 : decode cX6_takeOut 63 = .ok (.ireturn, 1) := by decide +kernel
theorem dX6_empty_0 : decode cX6_empty 0 = .ok (.aload_n 0, 1) := by decide +kernel
theorem dX6_empty_1 : decode cX6_empty 1 = .ok (.getfield 10, 3) := by decide +kernel
theorem dX6_empty_4 : decode cX6_empty 4 = .ok (.invokevirtual 48, 3) := by decide +kernel
theorem dX6_empty_7 : decode cX6_empty 7 = .ok (.invokestatic 52, 3) := by decide +kernel
theorem dX6_empty_10 : decode cX6_empty 10 = .ok (.istore_n 1, 1) := by decide +kernel
theorem dX6_empty_11 : decode cX6_empty 11 = .ok (.aload_n 0, 1) := by decide +kernel
theorem dX6_empty_12 : decode cX6_empty 12 = .ok (.getfield 19, 3) := by decide +kernel
theorem dX6_empty_15 : decode cX6_empty 15 = .ok (.aload_n 0, 1) := by decide +kernel
theorem dX6_empty_16 : decode cX6_empty 16 = .ok (.getfield 10, 3) := by decide +kernel
theorem dX6_empty_19 : decode cX6_empty 19 = .ok (.invokevirtual 58, 3) := by decide +kernel
theorem dX6_empty_22 : decode cX6_empty 22 = .ok (.aload_n 0, 1) := by decide +kernel
theorem dX6_empty_23 : decode cX6_empty 23 = .ok (.getfield 10, 3) := by decide +kernel
theorem dX6_empty_26 : decode cX6_empty 26 = .ok (.invokevirtual 62, 3) := by decide +kernel
theorem dX6_empty_29 : decode cX6_empty 29 = .ok (.iload_n 1, 1) := by decide +kernel
theorem dX6_empty_30 : decode cX6_empty 30 = .ok (.ireturn, 1) := by decide +kernel
theorem dX6_tray_0 : decode cX6_tray 0 = .ok (.aload_n 0, 1) := by decide +kernel
theorem dX6_tray_1 : decode cX6_tray 1 = .ok (.getfield 10, 3) := by decide +kernel
theorem dX6_tray_4 : decode cX6_tray 4 = .ok (.iload_n 1, 1) := by decide +kernel
theorem dX6_tray_5 : decode cX6_tray 5 = .ok (.invokevirtual 108, 3) := by decide +kernel
theorem dX6_tray_8 : decode cX6_tray 8 = .ok (.ifCond .eq 13, 3) := by decide +kernel
theorem dX6_tray_11 : decode cX6_tray 11 = .ok (.iload_n 2, 1) := by decide +kernel
theorem dX6_tray_12 : decode cX6_tray 12 = .ok (.iconst 0, 1) := by decide +kernel
theorem dX6_tray_13 : decode cX6_tray 13 = .ok (.bipush 15, 2) := by decide +kernel
theorem dX6_tray_15 : decode cX6_tray 15 = .ok (.invokestatic 44, 3) := by decide +kernel
theorem dX6_tray_18 : decode cX6_tray 18 = .ok (.ifCond .ne 5, 3) := by decide +kernel
theorem dX6_tray_21 : decode cX6_tray 21 = .ok (.iconst (-1), 1) := by decide +kernel
theorem dX6_tray_22 : decode cX6_tray 22 = .ok (.ireturn, 1) := by decide +kernel
theorem dX6_tray_23 : decode cX6_tray 23 = .ok (.iload_n 2, 1) := by decide +kernel
theorem dX6_tray_24 : decode cX6_tray 24 = .ok (.bipush 7, 2) := by decide +kernel
theorem dX6_tray_26 : decode cX6_tray 26 = .ok (.if_icmp .ge 17, 3) := by decide +kernel
theorem dX6_tray_29 : decode cX6_tray 29 = .ok (.aload_n 0, 1) := by decide +kernel
theorem dX6_tray_30 : decode cX6_tray 30 = .ok (.getfield 10, 3) := by decide +kernel
theorem dX6_tray_33 : decode cX6_tray 33 = .ok (.getfield 98, 3) := by decide +kernel
theorem dX6_tray_36 : decode cX6_tray 36 = .ok (.iload_n 1, 1) := by decide +kernel
theorem dX6_tray_37 : decode cX6_tray 37 = .ok (.aaload, 1) := by decide +kernel
theorem dX6_tray_38 : decode cX6_tray 38 = .ok (.iload_n 2, 1) := by decide +kernel
theorem dX6_tray_39 : decode cX6_tray 39 = .ok (.invokevirtual 157, 3) := by decide +kernel
theorem dX6_tray_42 : decode cX6_tray 42 = .ok (.ireturn, 1) := by decide +kernel
theorem dX6_tray_43 : decode cX6_tray 43 = .ok (.aload_n 0, 1) := by decide +kernel
theorem dX6_tray_44 : decode cX6_tray 44 = .ok (.getfield 10, 3) := by decide +kernel
theorem dX6_tray_47 : decode cX6_tray 47 = .ok (.getfield 98, 3) := by decide +kernel
theorem dX6_tray_50 : decode cX6_tray 50 = .ok (.iload_n 1, 1) := by decide +kernel
theorem dX6_tray_51 : decode cX6_tray 51 = .ok (.aaload, 1) := by decide +kernel
theorem dX6_tray_52 : decode cX6_tray 52 = .ok (.getfield 112, 3) := by decide +kernel
theorem dX6_tray_55 : decode cX6_tray 55 = .ok (.ifCond .eq 12, 3) := by decide +kernel
theorem dX6_tray_58 : decode cX6_tray 58 = .ok (.aload_n 0, 1) := by decide +kernel
theorem dX6_tray_59 : decode cX6_tray 59 = .ok (.iload_n 1, 1) := by decide +kernel
theorem dX6_tray_60 : decode cX6_tray 60 = .ok (.iload_n 2, 1) := by decide +kernel
theorem dX6_tray_61 : decode cX6_tray 61 = .ok (.invokevirtual 160, 3) := by decide +kernel
theorem dX6_tray_64 : decode cX6_tray 64 = .ok (.goto 5, 3) := by decide +kernel
theorem dX6_tray_67 : decode cX6_tray 67 = .ok (.bipush (-9), 2) := by decide +kernel
theorem dX6_tray_69 : decode cX6_tray 69 = .ok (.ireturn, 1) := by decide +kernel
theorem dX6_seen_0 : decode cX6_seen 0 = .ok (.iload_n 1, 1) := by decide +kernel
theorem dX6_seen_1 : decode cX6_seen 1 = .ok (.iconst 0, 1) := by decide +kernel
theorem dX6_seen_2 : decode cX6_seen 2 = .ok (.aload_n 0, 1) := by decide +kernel
theorem dX6_seen_3 : decode cX6_seen 3 = .ok (.getfield 10, 3) := by decide +kernel
theorem dX6_seen_6 : decode cX6_seen 6 = .ok (.getfield 65, 3) := by decide +kernel
theorem dX6_seen_9 : decode cX6_seen 9 = .ok (.iconst 1, 1) := by decide +kernel
theorem dX6_seen_10 : decode cX6_seen 10 = .ok (.isub, 1) := by decide +kernel
theorem dX6_seen_11 : decode cX6_seen 11 = .ok (.invokestatic 44, 3) := by decide +kernel
theorem dX6_seen_14 : decode cX6_seen 14 = .ok (.ifCond .eq 20, 3) := by decide +kernel
theorem dX6_seen_17 : decode cX6_seen 17 = .ok (.iload_n 2, 1) := by decide +kernel
theorem dX6_seen_18 : decode cX6_seen 18 = .ok (.iconst 0, 1) := by decide +kernel
theorem dX6_seen_19 : decode cX6_seen 19 = .ok (.aload_n 0, 1) := by decide +kernel
theorem dX6_seen_20 : decode cX6_seen 20 = .ok (.getfield 10, 3) := by decide +kernel
theorem dX6_seen_23 : decode cX6_seen 23 = .ok (.getfield 69, 3) := by decide +kernel
theorem dX6_seen_26 : decode cX6_seen 26 = .ok (.iconst 1, 1) := by decide +kernel
theorem dX6_seen_27 : decode cX6_seen 27 = .ok (.isub, 1) := by decide +kernel
theorem dX6_seen_28 : decode cX6_seen 28 = .ok (.invokestatic 44, 3) := by decide +kernel
theorem dX6_seen_31 : decode cX6_seen 31 = .ok (.ifCond .ne 5, 3) := by decide +kernel
theorem dX6_seen_34 : decode cX6_seen 34 = .ok (.iconst (-1), 1) := by decide +kernel
theorem dX6_seen_35 : decode cX6_seen 35 = .ok (.ireturn, 1) := by decide +kernel
theorem dX6_seen_36 : decode cX6_seen 36 = .ok (.aload_n 0, 1) := by decide +kernel
theorem dX6_seen_37 : decode cX6_seen 37 = .ok (.getfield 10, 3) := by decide +kernel
theorem dX6_seen_40 : decode cX6_seen 40 = .ok (.iload_n 1, 1) := by decide +kernel
theorem dX6_seen_41 : decode cX6_seen 41 = .ok (.iload_n 2, 1) := by decide +kernel
theorem dX6_seen_42 : decode cX6_seen 42 = .ok (.invokevirtual 164, 3) := by decide +kernel
theorem dX6_seen_45 : decode cX6_seen 45 = .ok (.istore 4, 2) := by decide +kernel
theorem dX6_seen_47 : decode cX6_seen 47 = .ok (.aload_n 0, 1) := by decide +kernel
theorem dX6_seen_48 : decode cX6_seen 48 = .ok (.getfield 10, 3) := by decide +kernel
theorem dX6_seen_51 : decode cX6_seen 51 = .ok (.iload 4, 2) := by decide +kernel
theorem dX6_seen_53 : decode cX6_seen 53 = .ok (.invokevirtual 108, 3) := by decide +kernel
theorem dX6_seen_56 : decode cX6_seen 56 = .ok (.ifCond .ne 14, 3) := by decide +kernel
theorem dX6_seen_59 : decode cX6_seen 59 = .ok (.iload_n 3, 1) := by decide +kernel
theorem dX6_seen_60 : decode cX6_seen 60 = .ok (.ifCond .eq 7, 3) := by decide +kernel
theorem dX6_seen_63 : decode cX6_seen 63 = .ok (.iconst 0, 1) := by decide +kernel
theorem dX6_seen_64 : decode cX6_seen 64 = .ok (.goto 5, 3) := by decide +kernel
theorem dX6_seen_67 : decode cX6_seen 67 = .ok (.bipush (-9), 2) := by decide +kernel
theorem dX6_seen_69 : decode cX6_seen 69 = .ok (.ireturn, 1) := by decide +kernel
theorem dX6_seen_70 : decode cX6_seen 70 = .ok (.iload_n 3, 1) := by decide +kernel
theorem dX6_seen_71 : decode cX6_seen 71 = .ok (.ifCond .eq 19, 3) := by decide +kernel
theorem dX6_seen_74 : decode cX6_seen 74 = .ok (.aload_n 0, 1) := by decide +kernel
theorem dX6_seen_75 : decode cX6_seen 75 = .ok (.getfield 10, 3) := by decide +kernel
theorem dX6_seen_78 : decode cX6_seen 78 = .ok (.getfield 98, 3) := by decide +kernel
theorem dX6_seen_81 : decode cX6_seen 81 = .ok (.iload 4, 2) := by decide +kernel
theorem dX6_seen_83 : decode cX6_seen 83 = .ok (.aaload, 1) := by decide +kernel
theorem dX6_seen_84 : decode cX6_seen 84 = .ok (.getfield 167, 3) := by decide +kernel
theorem dX6_seen_87 : decode cX6_seen 87 = .ok (.goto 5, 3) := by decide +kernel
theorem dX6_seen_90 : decode cX6_seen 90 = .ok (.iload 4, 2) := by decide +kernel
theorem dX6_seen_92 : decode cX6_seen 92 = .ok (.ireturn, 1) := by decide +kernel
theorem dX6_place_0 : decode cX6_place 0 = .ok (.aload_n 0, 1) := by decide +kernel
theorem dX6_place_1 : decode cX6_place 1 = .ok (.getfield 10, 3) := by decide +kernel
theorem dX6_place_4 : decode cX6_place 4 = .ok (.iload_n 1, 1) := by decide +kernel
theorem dX6_place_5 : decode cX6_place 5 = .ok (.invokevirtual 108, 3) := by decide +kernel
theorem dX6_place_8 : decode cX6_place 8 = .ok (.ifCond .eq 12, 3) := by decide +kernel
theorem dX6_place_11 : decode cX6_place 11 = .ok (.iload_n 2, 1) := by decide +kernel
theorem dX6_place_12 : decode cX6_place 12 = .ok (.iconst 0, 1) := by decide +kernel
theorem dX6_place_13 : decode cX6_place 13 = .ok (.iconst 3, 1) := by decide +kernel
theorem dX6_place_14 : decode cX6_place 14 = .ok (.invokestatic 44, 3) := by decide +kernel
theorem dX6_place_17 : decode cX6_place 17 = .ok (.ifCond .ne 5, 3) := by decide +kernel
theorem dX6_place_20 : decode cX6_place 20 = .ok (.iconst (-1), 1) := by decide +kernel
theorem dX6_place_21 : decode cX6_place 21 = .ok (.ireturn, 1) := by decide +kernel
theorem dX6_place_22 : decode cX6_place 22 = .ok (.aload_n 0, 1) := by decide +kernel
theorem dX6_place_23 : decode cX6_place 23 = .ok (.getfield 10, 3) := by decide +kernel
theorem dX6_place_26 : decode cX6_place 26 = .ok (.getfield 98, 3) := by decide +kernel
theorem dX6_place_29 : decode cX6_place 29 = .ok (.iload_n 1, 1) := by decide +kernel
theorem dX6_place_30 : decode cX6_place 30 = .ok (.aaload, 1) := by decide +kernel
theorem dX6_place_31 : decode cX6_place 31 = .ok (.getfield 112, 3) := by decide +kernel
theorem dX6_place_34 : decode cX6_place 34 = .ok (.ifCond .eq 6, 3) := by decide +kernel
theorem dX6_place_37 : decode cX6_place 37 = .ok (.bipush (-2), 2) := by decide +kernel
theorem dX6_place_39 : decode cX6_place 39 = .ok (.ireturn, 1) := by decide +kernel
theorem dX6_place_40 : decode cX6_place 40 = .ok (.aload_n 0, 1) := by decide +kernel
theorem dX6_place_41 : decode cX6_place 41 = .ok (.getfield 33, 3) := by decide +kernel
theorem dX6_place_44 : decode cX6_place 44 = .ok (.aload_n 0, 1) := by decide +kernel
theorem dX6_place_45 : decode cX6_place 45 = .ok (.getfield 10, 3) := by decide +kernel
theorem dX6_place_48 : decode cX6_place 48 = .ok (.invokevirtual 129, 3) := by decide +kernel
theorem dX6_place_51 : decode cX6_place 51 = .ok (.aload_n 0, 1) := by decide +kernel
theorem dX6_place_52 : decode cX6_place 52 = .ok (.getfield 33, 3) := by decide +kernel
theorem dX6_place_55 : decode cX6_place 55 = .ok (.aload_n 0, 1) := by decide +kernel
theorem dX6_place_56 : decode cX6_place 56 = .ok (.getfield 10, 3) := by decide +kernel
theorem dX6_place_59 : decode cX6_place 59 = .ok (.aload_n 0, 1) := by decide +kernel
theorem dX6_place_60 : decode cX6_place 60 = .ok (.getfield 10, 3) := by decide +kernel
theorem dX6_place_63 : decode cX6_place 63 = .ok (.getfield 98, 3) := by decide +kernel
theorem dX6_place_66 : decode cX6_place 66 = .ok (.iload_n 1, 1) := by decide +kernel
theorem dX6_place_67 : decode cX6_place 67 = .ok (.aaload, 1) := by decide +kernel
theorem dX6_place_68 : decode cX6_place 68 = .ok (.iconst 1, 1) := by decide +kernel
theorem dX6_place_69 : decode cX6_place 69 = .ok (.invokevirtual 170, 3) := by decide +kernel
theorem dX6_place_72 : decode cX6_place 72 = .ok (.aload_n 0, 1) := by decide +kernel
theorem dX6_place_73 : decode cX6_place 73 = .ok (.getfield 33, 3) := by decide +kernel
theorem dX6_place_76 : decode cX6_place 76 = .ok (.getfield 174, 3) := by decide +kernel
theorem dX6_place_79 : decode cX6_place 79 = .ok (.ifCond .ne 6, 3) := by decide +kernel
theorem dX6_place_82 : decode cX6_place 82 = .ok (.bipush (-9), 2) := by decide +kernel
theorem dX6_place_84 : decode cX6_place 84 = .ok (.ireturn, 1) := by decide +kernel
theorem dX6_place_85 : decode cX6_place 85 = .ok (.iload_n 2, 1) := by decide +kernel
theorem dX6_place_86 : decode cX6_place 86 = .ok (.tableswitch 58 0 2 #[26, 34, 42], 26) := by decide +kernel
theorem dX6_place_112 : decode cX6_place 112 = .ok (.aload_n 0, 1) := by decide +kernel
theorem dX6_place_113 : decode cX6_place 113 = .ok (.getfield 33, 3) := by decide +kernel
theorem dX6_place_116 : decode cX6_place 116 = .ok (.getfield 177, 3) := by decide +kernel
theorem dX6_place_119 : decode cX6_place 119 = .ok (.ireturn, 1) := by decide +kernel
theorem dX6_place_120 : decode cX6_place 120 = .ok (.aload_n 0, 1) := by decide +kernel
theorem dX6_place_121 : decode cX6_place 121 = .ok (.getfield 33, 3) := by decide +kernel
theorem dX6_place_124 : decode cX6_place 124 = .ok (.getfield 180, 3) := by decide +kernel
theorem dX6_place_127 : decode cX6_place 127 = .ok (.ireturn, 1) := by decide +kernel
theorem dX6_place_128 : decode cX6_place 128 = .ok (.aload_n 0, 1) := by decide +kernel
theorem dX6_place_129 : decode cX6_place 129 = .ok (.getfield 33, 3) := by decide +kernel
theorem dX6_place_132 : decode cX6_place 132 = .ok (.getfield 183, 3) := by decide +kernel
theorem dX6_place_135 : decode cX6_place 135 = .ok (.ifCond .eq 7, 3) := by decide +kernel
theorem dX6_place_138 : decode cX6_place 138 = .ok (.iconst 1, 1) := by decide +kernel
theorem dX6_place_139 : decode cX6_place 139 = .ok (.goto 4, 3) := by decide +kernel
theorem dX6_place_142 : decode cX6_place 142 = .ok (.iconst 0, 1) := by decide +kernel
theorem dX6_place_143 : decode cX6_place 143 = .ok (.ireturn, 1) := by decide +kernel
theorem dX6_place_144 : decode cX6_place 144 = .ok (.aload_n 0, 1) := by decide +kernel
theorem dX6_place_145 : decode cX6_place 145 = .ok (.getfield 33, 3) := by decide +kernel
theorem dX6_place_148 : decode cX6_place 148 = .ok (.getfield 186, 3) := by decide +kernel
theorem dX6_place_151 : decode cX6_place 151 = .ok (.aload_n 0, 1) := by decide +kernel
theorem dX6_place_152 : decode cX6_place 152 = .ok (.getfield 10, 3) := by decide +kernel
theorem dX6_place_155 : decode cX6_place 155 = .ok (.getfield 98, 3) := by decide +kernel
theorem dX6_place_158 : decode cX6_place 158 = .ok (.iload_n 1, 1) := by decide +kernel
theorem dX6_place_159 : decode cX6_place 159 = .ok (.aaload, 1) := by decide +kernel
theorem dX6_place_160 : decode cX6_place 160 = .ok (.invokevirtual 189, 3) := by decide +kernel
theorem dX6_place_163 : decode cX6_place 163 = .ok (.iadd, 1) := by decide +kernel
theorem dX6_place_164 : decode cX6_place 164 = .ok (.ireturn, 1) := by decide +kernel
theorem dX6_places_0 : decode cX6_places 0 = .ok (.aload_n 0, 1) := by decide +kernel
theorem dX6_places_1 : decode cX6_places 1 = .ok (.getfield 10, 3) := by decide +kernel
theorem dX6_places_4 : decode cX6_places 4 = .ok (.iload_n 1, 1) := by decide +kernel
theorem dX6_places_5 : decode cX6_places 5 = .ok (.invokevirtual 108, 3) := by decide +kernel
theorem dX6_places_8 : decode cX6_places 8 = .ok (.ifCond .ne 5, 3) := by decide +kernel
theorem dX6_places_11 : decode cX6_places 11 = .ok (.iconst (-1), 1) := by decide +kernel
theorem dX6_places_12 : decode cX6_places 12 = .ok (.ireturn, 1) := by decide +kernel
theorem dX6_places_13 : decode cX6_places 13 = .ok (.aload_n 0, 1) := by decide +kernel
theorem dX6_places_14 : decode cX6_places 14 = .ok (.getfield 10, 3) := by decide +kernel
theorem dX6_places_17 : decode cX6_places 17 = .ok (.getfield 98, 3) := by decide +kernel
theorem dX6_places_20 : decode cX6_places 20 = .ok (.iload_n 1, 1) := by decide +kernel
theorem dX6_places_21 : decode cX6_places 21 = .ok (.aaload, 1) := by decide +kernel
theorem dX6_places_22 : decode cX6_places 22 = .ok (.getfield 112, 3) := by decide +kernel
theorem dX6_places_25 : decode cX6_places 25 = .ok (.ifCond .eq 6, 3) := by decide +kernel
theorem dX6_places_28 : decode cX6_places 28 = .ok (.bipush (-2), 2) := by decide +kernel
theorem dX6_places_30 : decode cX6_places 30 = .ok (.ireturn, 1) := by decide +kernel
theorem dX6_places_31 : decode cX6_places 31 = .ok (.aload_n 0, 1) := by decide +kernel
theorem dX6_places_32 : decode cX6_places 32 = .ok (.getfield 33, 3) := by decide +kernel
theorem dX6_places_35 : decode cX6_places 35 = .ok (.aload_n 0, 1) := by decide +kernel
theorem dX6_places_36 : decode cX6_places 36 = .ok (.getfield 10, 3) := by decide +kernel
theorem dX6_places_39 : decode cX6_places 39 = .ok (.invokevirtual 129, 3) := by decide +kernel
theorem dX6_places_42 : decode cX6_places 42 = .ok (.aload_n 0, 1) := by decide +kernel
theorem dX6_places_43 : decode cX6_places 43 = .ok (.getfield 33, 3) := by decide +kernel
theorem dX6_places_46 : decode cX6_places 46 = .ok (.aload_n 0, 1) := by decide +kernel
theorem dX6_places_47 : decode cX6_places 47 = .ok (.getfield 10, 3) := by decide +kernel
theorem dX6_places_50 : decode cX6_places 50 = .ok (.aload_n 0, 1) := by decide +kernel
theorem dX6_places_51 : decode cX6_places 51 = .ok (.getfield 10, 3) := by decide +kernel
theorem dX6_places_54 : decode cX6_places 54 = .ok (.getfield 98, 3) := by decide +kernel
theorem dX6_places_57 : decode cX6_places 57 = .ok (.iload_n 1, 1) := by decide +kernel
theorem dX6_places_58 : decode cX6_places 58 = .ok (.aaload, 1) := by decide +kernel
theorem dX6_places_59 : decode cX6_places 59 = .ok (.iconst 0, 1) := by decide +kernel
theorem dX6_places_60 : decode cX6_places 60 = .ok (.invokevirtual 170, 3) := by decide +kernel
theorem dX6_places_63 : decode cX6_places 63 = .ok (.aload_n 0, 1) := by decide +kernel
theorem dX6_places_64 : decode cX6_places 64 = .ok (.getfield 33, 3) := by decide +kernel
theorem dX6_places_67 : decode cX6_places 67 = .ok (.getfield 174, 3) := by decide +kernel
theorem dX6_places_70 : decode cX6_places 70 = .ok (.ireturn, 1) := by decide +kernel
theorem dX6_pack_0 : decode cX6_pack 0 = .ok (.aload_n 0, 1) := by decide +kernel
theorem dX6_pack_1 : decode cX6_pack 1 = .ok (.getfield 40, 3) := by decide +kernel
theorem dX6_pack_4 : decode cX6_pack 4 = .ok (.aload_n 0, 1) := by decide +kernel
theorem dX6_pack_5 : decode cX6_pack 5 = .ok (.getfield 10, 3) := by decide +kernel
theorem dX6_pack_8 : decode cX6_pack 8 = .ok (.invokevirtual 192, 3) := by decide +kernel
theorem dX6_pack_11 : decode cX6_pack 11 = .ok (.aload_n 0, 1) := by decide +kernel
theorem dX6_pack_12 : decode cX6_pack 12 = .ok (.invokevirtual 195, 3) := by decide +kernel
theorem dX6_pack_15 : decode cX6_pack 15 = .ok (.ireturn, 1) := by decide +kernel
theorem dX6_packBest_0 : decode cX6_packBest 0 = .ok (.aload_n 0, 1) := by decide +kernel
theorem dX6_packBest_1 : decode cX6_packBest 1 = .ok (.getfield 10, 3) := by decide +kernel
theorem dX6_packBest_4 : decode cX6_packBest 4 = .ok (.getfield 95, 3) := by decide +kernel
theorem dX6_packBest_7 : decode cX6_packBest 7 = .ok (.iconst 5, 1) := by decide +kernel
theorem dX6_packBest_8 : decode cX6_packBest 8 = .ok (.if_icmp .le 6, 3) := by decide +kernel
theorem dX6_packBest_11 : decode cX6_packBest 11 = .ok (.bipush (-2), 2) := by decide +kernel
theorem dX6_packBest_13 : decode cX6_packBest 13 = .ok (.ireturn, 1) := by decide +kernel
theorem dX6_packBest_14 : decode cX6_packBest 14 = .ok (.aload_n 0, 1) := by decide +kernel
theorem dX6_packBest_15 : decode cX6_packBest 15 = .ok (.getfield 40, 3) := by decide +kernel
theorem dX6_packBest_18 : decode cX6_packBest 18 = .ok (.aload_n 0, 1) := by decide +kernel
theorem dX6_packBest_19 : decode cX6_packBest 19 = .ok (.getfield 10, 3) := by decide +kernel
theorem dX6_packBest_22 : decode cX6_packBest 22 = .ok (.invokevirtual 198, 3) := by decide +kernel
theorem dX6_packBest_25 : decode cX6_packBest 25 = .ok (.aload_n 0, 1) := by decide +kernel
theorem dX6_packBest_26 : decode cX6_packBest 26 = .ok (.invokevirtual 195, 3) := by decide +kernel
theorem dX6_packBest_29 : decode cX6_packBest 29 = .ok (.ireturn, 1) := by decide +kernel
theorem dX6_ifPacked_0 : decode cX6_ifPacked 0 = .ok (.iload_n 2, 1) := by decide +kernel
theorem dX6_ifPacked_1 : decode cX6_ifPacked 1 = .ok (.iconst 0, 1) := by decide +kernel
theorem dX6_ifPacked_2 : decode cX6_ifPacked 2 = .ok (.iconst 3, 1) := by decide +kernel
theorem dX6_ifPacked_3 : decode cX6_ifPacked 3 = .ok (.invokestatic 44, 3) := by decide +kernel
theorem dX6_ifPacked_6 : decode cX6_ifPacked 6 = .ok (.ifCond .ne 11, 3) := by decide +kernel
theorem dX6_ifPacked_9 : decode cX6_ifPacked 9 = .ok (.iload_n 2, 1) := by decide +kernel
theorem dX6_ifPacked_10 : decode cX6_ifPacked 10 = .ok (.bipush 10, 2) := by decide +kernel
theorem dX6_ifPacked_12 : decode cX6_ifPacked 12 = .ok (.if_icmp .ge 5, 3) := by decide +kernel
theorem dX6_ifPacked_15 : decode cX6_ifPacked 15 = .ok (.iconst (-1), 1) := by decide +kernel
theorem dX6_ifPacked_16 : decode cX6_ifPacked 16 = .ok (.ireturn, 1) := by decide +kernel
theorem dX6_ifPacked_17 : decode cX6_ifPacked 17 = .ok (.iload_n 1, 1) := by decide +kernel
theorem dX6_ifPacked_18 : decode cX6_ifPacked 18 = .ok (.ifCond .eq 17, 3) := by decide +kernel
theorem dX6_ifPacked_21 : decode cX6_ifPacked 21 = .ok (.aload_n 0, 1) := by decide +kernel
theorem dX6_ifPacked_22 : decode cX6_ifPacked 22 = .ok (.getfield 10, 3) := by decide +kernel
theorem dX6_ifPacked_25 : decode cX6_ifPacked 25 = .ok (.getfield 95, 3) := by decide +kernel
theorem dX6_ifPacked_28 : decode cX6_ifPacked 28 = .ok (.iconst 5, 1) := by decide +kernel
theorem dX6_ifPacked_29 : decode cX6_ifPacked 29 = .ok (.if_icmp .le 6, 3) := by decide +kernel
theorem dX6_ifPacked_32 : decode cX6_ifPacked 32 = .ok (.bipush (-2), 2) := by decide +kernel
theorem dX6_ifPacked_34 : decode cX6_ifPacked 34 = .ok (.ireturn, 1) := by decide +kernel
theorem dX6_ifPacked_35 : decode cX6_ifPacked 35 = .ok (.iload_n 1, 1) := by decide +kernel
theorem dX6_ifPacked_36 : decode cX6_ifPacked 36 = .ok (.ifCond .eq 17, 3) := by decide +kernel
theorem dX6_ifPacked_39 : decode cX6_ifPacked 39 = .ok (.aload_n 0, 1) := by decide +kernel
theorem dX6_ifPacked_40 : decode cX6_ifPacked 40 = .ok (.getfield 40, 3) := by decide +kernel
theorem dX6_ifPacked_43 : decode cX6_ifPacked 43 = .ok (.aload_n 0, 1) := by decide +kernel
theorem dX6_ifPacked_44 : decode cX6_ifPacked 44 = .ok (.getfield 10, 3) := by decide +kernel
theorem dX6_ifPacked_47 : decode cX6_ifPacked 47 = .ok (.invokevirtual 198, 3) := by decide +kernel
theorem dX6_ifPacked_50 : decode cX6_ifPacked 50 = .ok (.goto 14, 3) := by decide +kernel
theorem dX6_ifPacked_53 : decode cX6_ifPacked 53 = .ok (.aload_n 0, 1) := by decide +kernel
theorem dX6_ifPacked_54 : decode cX6_ifPacked 54 = .ok (.getfield 40, 3) := by decide +kernel
theorem dX6_ifPacked_57 : decode cX6_ifPacked 57 = .ok (.aload_n 0, 1) := by decide +kernel
theorem dX6_ifPacked_58 : decode cX6_ifPacked 58 = .ok (.getfield 10, 3) := by decide +kernel
theorem dX6_ifPacked_61 : decode cX6_ifPacked 61 = .ok (.invokevirtual 192, 3) := by decide +kernel
theorem dX6_ifPacked_64 : decode cX6_ifPacked 64 = .ok (.iload_n 2, 1) := by decide +kernel
theorem dX6_ifPacked_65 : decode cX6_ifPacked 65 = .ok (.iconst 4, 1) := by decide +kernel
theorem dX6_ifPacked_66 : decode cX6_ifPacked 66 = .ok (.if_icmp .ge 13, 3) := by decide +kernel
theorem dX6_ifPacked_69 : decode cX6_ifPacked 69 = .ok (.aload_n 0, 1) := by decide +kernel
theorem dX6_ifPacked_70 : decode cX6_ifPacked 70 = .ok (.getfield 40, 3) := by decide +kernel
theorem dX6_ifPacked_73 : decode cX6_ifPacked 73 = .ok (.getfield 201, 3) := by decide +kernel
theorem dX6_ifPacked_76 : decode cX6_ifPacked 76 = .ok (.iload_n 2, 1) := by decide +kernel
theorem dX6_ifPacked_77 : decode cX6_ifPacked 77 = .ok (.iaload, 1) := by decide +kernel
theorem dX6_ifPacked_78 : decode cX6_ifPacked 78 = .ok (.ireturn, 1) := by decide +kernel
theorem dX6_ifPacked_79 : decode cX6_ifPacked 79 = .ok (.iload_n 2, 1) := by decide +kernel
theorem dX6_ifPacked_80 : decode cX6_ifPacked 80 = .ok (.bipush 10, 2) := by decide +kernel
theorem dX6_ifPacked_82 : decode cX6_ifPacked 82 = .ok (.isub, 1) := by decide +kernel
theorem dX6_ifPacked_83 : decode cX6_ifPacked 83 = .ok (.istore_n 3, 1) := by decide +kernel
theorem dX6_ifPacked_84 : decode cX6_ifPacked 84 = .ok (.aload_n 0, 1) := by decide +kernel
theorem dX6_ifPacked_85 : decode cX6_ifPacked 85 = .ok (.getfield 10, 3) := by decide +kernel
theorem dX6_ifPacked_88 : decode cX6_ifPacked 88 = .ok (.iload_n 3, 1) := by decide +kernel
theorem dX6_ifPacked_89 : decode cX6_ifPacked 89 = .ok (.invokevirtual 108, 3) := by decide +kernel
theorem dX6_ifPacked_92 : decode cX6_ifPacked 92 = .ok (.ifCond .eq 15, 3) := by decide +kernel
theorem dX6_ifPacked_95 : decode cX6_ifPacked 95 = .ok (.aload_n 0, 1) := by decide +kernel
theorem dX6_ifPacked_96 : decode cX6_ifPacked 96 = .ok (.getfield 40, 3) := by decide +kernel
theorem dX6_ifPacked_99 : decode cX6_ifPacked 99 = .ok (.getfield 205, 3) := by decide +kernel
theorem dX6_ifPacked_102 : decode cX6_ifPacked 102 = .ok (.iload_n 3, 1) := by decide +kernel
theorem dX6_ifPacked_103 : decode cX6_ifPacked 103 = .ok (.iaload, 1) := by decide +kernel
theorem dX6_ifPacked_104 : decode cX6_ifPacked 104 = .ok (.goto 5, 3) := by decide +kernel
theorem dX6_ifPacked_107 : decode cX6_ifPacked 107 = .ok (.bipush (-9), 2) := by decide +kernel
theorem dX6_ifPacked_109 : decode cX6_ifPacked 109 = .ok (.ireturn, 1) := by decide +kernel
theorem dX6_play_0 : decode cX6_play 0 = .ok (.aload_n 0, 1) := by decide +kernel
theorem dX6_play_1 : decode cX6_play 1 = .ok (.getfield 10, 3) := by decide +kernel
theorem dX6_play_4 : decode cX6_play 4 = .ok (.bipush (-9), 2) := by decide +kernel
theorem dX6_play_6 : decode cX6_play 6 = .ok (.invokevirtual 208, 3) := by decide +kernel
theorem dX6_play_9 : decode cX6_play 9 = .ok (.istore_n 1, 1) := by decide +kernel
theorem dX6_play_10 : decode cX6_play 10 = .ok (.aload_n 0, 1) := by decide +kernel
theorem dX6_play_11 : decode cX6_play 11 = .ok (.getfield 19, 3) := by decide +kernel
theorem dX6_play_14 : decode cX6_play 14 = .ok (.aload_n 0, 1) := by decide +kernel
theorem dX6_play_15 : decode cX6_play 15 = .ok (.getfield 10, 3) := by decide +kernel
theorem dX6_play_18 : decode cX6_play 18 = .ok (.invokevirtual 58, 3) := by decide +kernel
theorem dX6_play_21 : decode cX6_play 21 = .ok (.aload_n 0, 1) := by decide +kernel
theorem dX6_play_22 : decode cX6_play 22 = .ok (.getfield 10, 3) := by decide +kernel
theorem dX6_play_25 : decode cX6_play 25 = .ok (.invokevirtual 62, 3) := by decide +kernel
theorem dX6_play_28 : decode cX6_play 28 = .ok (.iload_n 1, 1) := by decide +kernel
theorem dX6_play_29 : decode cX6_play 29 = .ok (.ireturn, 1) := by decide +kernel
theorem dX6_liftsTo_0 : decode cX6_liftsTo 0 = .ok (.aload_n 0, 1) := by decide +kernel
theorem dX6_liftsTo_1 : decode cX6_liftsTo 1 = .ok (.getfield 10, 3) := by decide +kernel
theorem dX6_liftsTo_4 : decode cX6_liftsTo 4 = .ok (.iload_n 1, 1) := by decide +kernel
theorem dX6_liftsTo_5 : decode cX6_liftsTo 5 = .ok (.invokevirtual 108, 3) := by decide +kernel
theorem dX6_liftsTo_8 : decode cX6_liftsTo 8 = .ok (.ifCond .ne 5, 3) := by decide +kernel
theorem dX6_liftsTo_11 : decode cX6_liftsTo 11 = .ok (.iconst (-1), 1) := by decide +kernel
theorem dX6_liftsTo_12 : decode cX6_liftsTo 12 = .ok (.ireturn, 1) := by decide +kernel
theorem dX6_liftsTo_13 : decode cX6_liftsTo 13 = .ok (.aload_n 0, 1) := by decide +kernel
theorem dX6_liftsTo_14 : decode cX6_liftsTo 14 = .ok (.getfield 10, 3) := by decide +kernel
theorem dX6_liftsTo_17 : decode cX6_liftsTo 17 = .ok (.getfield 98, 3) := by decide +kernel
theorem dX6_liftsTo_20 : decode cX6_liftsTo 20 = .ok (.iload_n 1, 1) := by decide +kernel
theorem dX6_liftsTo_21 : decode cX6_liftsTo 21 = .ok (.aaload, 1) := by decide +kernel
theorem dX6_liftsTo_22 : decode cX6_liftsTo 22 = .ok (.getfield 112, 3) := by decide +kernel
theorem dX6_liftsTo_25 : decode cX6_liftsTo 25 = .ok (.ifCond .ne 6, 3) := by decide +kernel
theorem dX6_liftsTo_28 : decode cX6_liftsTo 28 = .ok (.bipush (-2), 2) := by decide +kernel
theorem dX6_liftsTo_30 : decode cX6_liftsTo 30 = .ok (.ireturn, 1) := by decide +kernel
theorem dX6_liftsTo_31 : decode cX6_liftsTo 31 = .ok (.aload_n 0, 1) := by decide +kernel
theorem dX6_liftsTo_32 : decode cX6_liftsTo 32 = .ok (.getfield 10, 3) := by decide +kernel
theorem dX6_liftsTo_35 : decode cX6_liftsTo 35 = .ok (.iload_n 1, 1) := by decide +kernel
theorem dX6_liftsTo_36 : decode cX6_liftsTo 36 = .ok (.invokevirtual 208, 3) := by decide +kernel
theorem dX6_liftsTo_39 : decode cX6_liftsTo 39 = .ok (.ireturn, 1) := by decide +kernel
theorem dX6_undo_0 : decode cX6_undo 0 = .ok (.aload_n 0, 1) := by decide +kernel
theorem dX6_undo_1 : decode cX6_undo 1 = .ok (.getfield 19, 3) := by decide +kernel
theorem dX6_undo_4 : decode cX6_undo 4 = .ok (.getfield 211, 3) := by decide +kernel
theorem dX6_undo_7 : decode cX6_undo 7 = .ok (.ifCond .ne 6, 3) := by decide +kernel
theorem dX6_undo_10 : decode cX6_undo 10 = .ok (.bipush (-2), 2) := by decide +kernel
theorem dX6_undo_12 : decode cX6_undo 12 = .ok (.ireturn, 1) := by decide +kernel
theorem dX6_undo_13 : decode cX6_undo 13 = .ok (.aload_n 0, 1) := by decide +kernel
theorem dX6_undo_14 : decode cX6_undo 14 = .ok (.getfield 19, 3) := by decide +kernel
theorem dX6_undo_17 : decode cX6_undo 17 = .ok (.aload_n 0, 1) := by decide +kernel
theorem dX6_undo_18 : decode cX6_undo 18 = .ok (.getfield 10, 3) := by decide +kernel
theorem dX6_undo_21 : decode cX6_undo 21 = .ok (.invokevirtual 214, 3) := by decide +kernel
theorem dX6_undo_24 : decode cX6_undo 24 = .ok (.aload_n 0, 1) := by decide +kernel
theorem dX6_undo_25 : decode cX6_undo 25 = .ok (.getfield 19, 3) := by decide +kernel
theorem dX6_undo_28 : decode cX6_undo 28 = .ok (.getfield 211, 3) := by decide +kernel
theorem dX6_undo_31 : decode cX6_undo 31 = .ok (.ireturn, 1) := by decide +kernel
theorem dX6_count_0 : decode cX6_count 0 = .ok (.iload_n 1, 1) := by decide +kernel
theorem dX6_count_1 : decode cX6_count 1 = .ok (.tableswitch 174 0 12 #[67, 75, 83, 91, 99, 107, 118, 126, 134, 142, 150, 158, 166], 67) := by decide +kernel
theorem dX6_count_68 : decode cX6_count 68 = .ok (.aload_n 0, 1) := by decide +kernel
theorem dX6_count_69 : decode cX6_count 69 = .ok (.getfield 10, 3) := by decide +kernel
theorem dX6_count_72 : decode cX6_count 72 = .ok (.getfield 65, 3) := by decide +kernel
theorem dX6_count_75 : decode cX6_count 75 = .ok (.ireturn, 1) := by decide +kernel
theorem dX6_count_76 : decode cX6_count 76 = .ok (.aload_n 0, 1) := by decide +kernel
theorem dX6_count_77 : decode cX6_count 77 = .ok (.getfield 10, 3) := by decide +kernel
theorem dX6_count_80 : decode cX6_count 80 = .ok (.getfield 69, 3) := by decide +kernel
theorem dX6_count_83 : decode cX6_count 83 = .ok (.ireturn, 1) := by decide +kernel
theorem dX6_count_84 : decode cX6_count 84 = .ok (.aload_n 0, 1) := by decide +kernel
theorem dX6_count_85 : decode cX6_count 85 = .ok (.getfield 10, 3) := by decide +kernel
theorem dX6_count_88 : decode cX6_count 88 = .ok (.getfield 72, 3) := by decide +kernel
theorem dX6_count_91 : decode cX6_count 91 = .ok (.ireturn, 1) := by decide +kernel
theorem dX6_count_92 : decode cX6_count 92 = .ok (.aload_n 0, 1) := by decide +kernel
theorem dX6_count_93 : decode cX6_count 93 = .ok (.getfield 10, 3) := by decide +kernel
theorem dX6_count_96 : decode cX6_count 96 = .ok (.getfield 75, 3) := by decide +kernel
theorem dX6_count_99 : decode cX6_count 99 = .ok (.ireturn, 1) := by decide +kernel
theorem dX6_count_100 : decode cX6_count 100 = .ok (.aload_n 0, 1) := by decide +kernel
theorem dX6_count_101 : decode cX6_count 101 = .ok (.getfield 10, 3) := by decide +kernel
theorem dX6_count_104 : decode cX6_count 104 = .ok (.getfield 95, 3) := by decide +kernel
theorem dX6_count_107 : decode cX6_count 107 = .ok (.ireturn, 1) := by decide +kernel
theorem dX6_count_108 : decode cX6_count 108 = .ok (.aload_n 0, 1) := by decide +kernel
theorem dX6_count_109 : decode cX6_count 109 = .ok (.getfield 10, 3) := by decide +kernel
theorem dX6_count_112 : decode cX6_count 112 = .ok (.invokevirtual 48, 3) := by decide +kernel
theorem dX6_count_115 : decode cX6_count 115 = .ok (.invokestatic 52, 3) := by decide +kernel
theorem dX6_count_118 : decode cX6_count 118 = .ok (.ireturn, 1) := by decide +kernel
theorem dX6_count_119 : decode cX6_count 119 = .ok (.aload_n 0, 1) := by decide +kernel
theorem dX6_count_120 : decode cX6_count 120 = .ok (.getfield 10, 3) := by decide +kernel
theorem dX6_count_123 : decode cX6_count 123 = .ok (.invokevirtual 217, 3) := by decide +kernel
theorem dX6_count_126 : decode cX6_count 126 = .ok (.ireturn, 1) := by decide +kernel
theorem dX6_count_127 : decode cX6_count 127 = .ok (.aload_n 0, 1) := by decide +kernel
theorem dX6_count_128 : decode cX6_count 128 = .ok (.getfield 10, 3) := by decide +kernel
theorem dX6_count_131 : decode cX6_count 131 = .ok (.invokevirtual 220, 3) := by decide +kernel
theorem dX6_count_134 : decode cX6_count 134 = .ok (.ireturn, 1) := by decide +kernel
theorem dX6_count_135 : decode cX6_count 135 = .ok (.aload_n 0, 1) := by decide +kernel
theorem dX6_count_136 : decode cX6_count 136 = .ok (.getfield 10, 3) := by decide +kernel
theorem dX6_count_139 : decode cX6_count 139 = .ok (.invokevirtual 223, 3) := by decide +kernel
theorem dX6_count_142 : decode cX6_count 142 = .ok (.ireturn, 1) := by decide +kernel
theorem dX6_count_143 : decode cX6_count 143 = .ok (.aload_n 0, 1) := by decide +kernel
theorem dX6_count_144 : decode cX6_count 144 = .ok (.getfield 10, 3) := by decide +kernel
theorem dX6_count_147 : decode cX6_count 147 = .ok (.invokevirtual 226, 3) := by decide +kernel
theorem dX6_count_150 : decode cX6_count 150 = .ok (.ireturn, 1) := by decide +kernel
theorem dX6_count_151 : decode cX6_count 151 = .ok (.aload_n 0, 1) := by decide +kernel
theorem dX6_count_152 : decode cX6_count 152 = .ok (.getfield 10, 3) := by decide +kernel
theorem dX6_count_155 : decode cX6_count 155 = .ok (.invokevirtual 229, 3) := by decide +kernel
theorem dX6_count_158 : decode cX6_count 158 = .ok (.ireturn, 1) := by decide +kernel
theorem dX6_count_159 : decode cX6_count 159 = .ok (.aload_n 0, 1) := by decide +kernel
theorem dX6_count_160 : decode cX6_count 160 = .ok (.getfield 26, 3) := by decide +kernel
theorem dX6_count_163 : decode cX6_count 163 = .ok (.getfield 78, 3) := by decide +kernel
theorem dX6_count_166 : decode cX6_count 166 = .ok (.ireturn, 1) := by decide +kernel
theorem dX6_count_167 : decode cX6_count 167 = .ok (.aload_n 0, 1) := by decide +kernel
theorem dX6_count_168 : decode cX6_count 168 = .ok (.getfield 19, 3) := by decide +kernel
theorem dX6_count_171 : decode cX6_count 171 = .ok (.getfield 211, 3) := by decide +kernel
theorem dX6_count_174 : decode cX6_count 174 = .ok (.ireturn, 1) := by decide +kernel
theorem dX6_count_175 : decode cX6_count 175 = .ok (.iconst (-1), 1) := by decide +kernel
theorem dX6_count_176 : decode cX6_count 176 = .ok (.ireturn, 1) := by decide +kernel
theorem dX6_digest_0 : decode cX6_digest 0 = .ok (.ldc2_w 232, 3) := by decide +kernel
theorem dX6_digest_3 : decode cX6_digest 3 = .ok (.lstore_n 1, 1) := by decide +kernel
theorem dX6_digest_4 : decode cX6_digest 4 = .ok (.iconst 0, 1) := by decide +kernel
theorem dX6_digest_5 : decode cX6_digest 5 = .ok (.istore_n 3, 1) := by decide +kernel
theorem dX6_digest_6 : decode cX6_digest 6 = .ok (.iload_n 3, 1) := by decide +kernel
theorem dX6_digest_7 : decode cX6_digest 7 = .ok (.bipush 12, 2) := by decide +kernel
theorem dX6_digest_9 : decode cX6_digest 9 = .ok (.if_icmp .gt 22, 3) := by decide +kernel
theorem dX6_digest_12 : decode cX6_digest 12 = .ok (.ldc2_w 234, 3) := by decide +kernel
theorem dX6_digest_15 : decode cX6_digest 15 = .ok (.lload_n 1, 1) := by decide +kernel
theorem dX6_digest_16 : decode cX6_digest 16 = .ok (.lmul, 1) := by decide +kernel
theorem dX6_digest_17 : decode cX6_digest 17 = .ok (.aload_n 0, 1) := by decide +kernel
theorem dX6_digest_18 : decode cX6_digest 18 = .ok (.iload_n 3, 1) := by decide +kernel
theorem dX6_digest_19 : decode cX6_digest 19 = .ok (.invokevirtual 236, 3) := by decide +kernel
theorem dX6_digest_22 : decode cX6_digest 22 = .ok (.i2l, 1) := by decide +kernel
theorem dX6_digest_23 : decode cX6_digest 23 = .ok (.ladd, 1) := by decide +kernel
theorem dX6_digest_24 : decode cX6_digest 24 = .ok (.lstore_n 1, 1) := by decide +kernel
theorem dX6_digest_25 : decode cX6_digest 25 = .ok (.iinc 3 1, 3) := by decide +kernel
theorem dX6_digest_28 : decode cX6_digest 28 = .ok (.goto (-22), 3) := by decide +kernel
theorem dX6_digest_31 : decode cX6_digest 31 = .ok (.iconst 0, 1) := by decide +kernel
theorem dX6_digest_32 : decode cX6_digest 32 = .ok (.istore_n 3, 1) := by decide +kernel
theorem dX6_digest_33 : decode cX6_digest 33 = .ok (.iload_n 3, 1) := by decide +kernel
theorem dX6_digest_34 : decode cX6_digest 34 = .ok (.aload_n 0, 1) := by decide +kernel
theorem dX6_digest_35 : decode cX6_digest 35 = .ok (.getfield 10, 3) := by decide +kernel
theorem dX6_digest_38 : decode cX6_digest 38 = .ok (.getfield 95, 3) := by decide +kernel
theorem dX6_digest_41 : decode cX6_digest 41 = .ok (.if_icmp .ge 68, 3) := by decide +kernel
theorem dX6_digest_44 : decode cX6_digest 44 = .ok (.iconst 0, 1) := by decide +kernel
theorem dX6_digest_45 : decode cX6_digest 45 = .ok (.istore 4, 2) := by decide +kernel
theorem dX6_digest_47 : decode cX6_digest 47 = .ok (.iload 4, 2) := by decide +kernel
theorem dX6_digest_49 : decode cX6_digest 49 = .ok (.bipush 15, 2) := by decide +kernel
theorem dX6_digest_51 : decode cX6_digest 51 = .ok (.if_icmp .gt 24, 3) := by decide +kernel
theorem dX6_digest_54 : decode cX6_digest 54 = .ok (.ldc2_w 234, 3) := by decide +kernel
theorem dX6_digest_57 : decode cX6_digest 57 = .ok (.lload_n 1, 1) := by decide +kernel
theorem dX6_digest_58 : decode cX6_digest 58 = .ok (.lmul, 1) := by decide +kernel
theorem dX6_digest_59 : decode cX6_digest 59 = .ok (.aload_n 0, 1) := by decide +kernel
theorem dX6_digest_60 : decode cX6_digest 60 = .ok (.iload_n 3, 1) := by decide +kernel
theorem dX6_digest_61 : decode cX6_digest 61 = .ok (.iload 4, 2) := by decide +kernel
theorem dX6_digest_63 : decode cX6_digest 63 = .ok (.invokevirtual 239, 3) := by decide +kernel
theorem dX6_digest_66 : decode cX6_digest 66 = .ok (.i2l, 1) := by decide +kernel
theorem dX6_digest_67 : decode cX6_digest 67 = .ok (.ladd, 1) := by decide +kernel
theorem dX6_digest_68 : decode cX6_digest 68 = .ok (.lstore_n 1, 1) := by decide +kernel
theorem dX6_digest_69 : decode cX6_digest 69 = .ok (.iinc 4 1, 3) := by decide +kernel
theorem dX6_digest_72 : decode cX6_digest 72 = .ok (.goto (-25), 3) := by decide +kernel
theorem dX6_digest_75 : decode cX6_digest 75 = .ok (.ldc2_w 234, 3) := by decide +kernel
theorem dX6_digest_78 : decode cX6_digest 78 = .ok (.lload_n 1, 1) := by decide +kernel
theorem dX6_digest_79 : decode cX6_digest 79 = .ok (.lmul, 1) := by decide +kernel
theorem dX6_digest_80 : decode cX6_digest 80 = .ok (.aload_n 0, 1) := by decide +kernel
theorem dX6_digest_81 : decode cX6_digest 81 = .ok (.iload_n 3, 1) := by decide +kernel
theorem dX6_digest_82 : decode cX6_digest 82 = .ok (.iconst 0, 1) := by decide +kernel
theorem dX6_digest_83 : decode cX6_digest 83 = .ok (.invokevirtual 242, 3) := by decide +kernel
theorem dX6_digest_86 : decode cX6_digest 86 = .ok (.i2l, 1) := by decide +kernel
theorem dX6_digest_87 : decode cX6_digest 87 = .ok (.ladd, 1) := by decide +kernel
theorem dX6_digest_88 : decode cX6_digest 88 = .ok (.lstore_n 1, 1) := by decide +kernel
theorem dX6_digest_89 : decode cX6_digest 89 = .ok (.ldc2_w 234, 3) := by decide +kernel
theorem dX6_digest_92 : decode cX6_digest 92 = .ok (.lload_n 1, 1) := by decide +kernel
theorem dX6_digest_93 : decode cX6_digest 93 = .ok (.lmul, 1) := by decide +kernel
theorem dX6_digest_94 : decode cX6_digest 94 = .ok (.aload_n 0, 1) := by decide +kernel
theorem dX6_digest_95 : decode cX6_digest 95 = .ok (.iload_n 3, 1) := by decide +kernel
theorem dX6_digest_96 : decode cX6_digest 96 = .ok (.iconst 3, 1) := by decide +kernel
theorem dX6_digest_97 : decode cX6_digest 97 = .ok (.invokevirtual 242, 3) := by decide +kernel
theorem dX6_digest_100 : decode cX6_digest 100 = .ok (.i2l, 1) := by decide +kernel
theorem dX6_digest_101 : decode cX6_digest 101 = .ok (.ladd, 1) := by decide +kernel
theorem dX6_digest_102 : decode cX6_digest 102 = .ok (.lstore_n 1, 1) := by decide +kernel
theorem dX6_digest_103 : decode cX6_digest 103 = .ok (.iinc 3 1, 3) := by decide +kernel
theorem dX6_digest_106 : decode cX6_digest 106 = .ok (.goto (-73), 3) := by decide +kernel
theorem dX6_digest_109 : decode cX6_digest 109 = .ok (.iconst 0, 1) := by decide +kernel
theorem dX6_digest_110 : decode cX6_digest 110 = .ok (.istore_n 3, 1) := by decide +kernel
theorem dX6_digest_111 : decode cX6_digest 111 = .ok (.iload_n 3, 1) := by decide +kernel
theorem dX6_digest_112 : decode cX6_digest 112 = .ok (.aload_n 0, 1) := by decide +kernel
theorem dX6_digest_113 : decode cX6_digest 113 = .ok (.getfield 10, 3) := by decide +kernel
theorem dX6_digest_116 : decode cX6_digest 116 = .ok (.getfield 65, 3) := by decide +kernel
theorem dX6_digest_119 : decode cX6_digest 119 = .ok (.if_icmp .ge 62, 3) := by decide +kernel
theorem dX6_digest_122 : decode cX6_digest 122 = .ok (.iconst 0, 1) := by decide +kernel
theorem dX6_digest_123 : decode cX6_digest 123 = .ok (.istore 4, 2) := by decide +kernel
theorem dX6_digest_125 : decode cX6_digest 125 = .ok (.iload 4, 2) := by decide +kernel
theorem dX6_digest_127 : decode cX6_digest 127 = .ok (.aload_n 0, 1) := by decide +kernel
theorem dX6_digest_128 : decode cX6_digest 128 = .ok (.getfield 10, 3) := by decide +kernel
theorem dX6_digest_131 : decode cX6_digest 131 = .ok (.getfield 69, 3) := by decide +kernel
theorem dX6_digest_134 : decode cX6_digest 134 = .ok (.if_icmp .ge 41, 3) := by decide +kernel
theorem dX6_digest_137 : decode cX6_digest 137 = .ok (.ldc2_w 234, 3) := by decide +kernel
theorem dX6_digest_140 : decode cX6_digest 140 = .ok (.lload_n 1, 1) := by decide +kernel
theorem dX6_digest_141 : decode cX6_digest 141 = .ok (.lmul, 1) := by decide +kernel
theorem dX6_digest_142 : decode cX6_digest 142 = .ok (.aload_n 0, 1) := by decide +kernel
theorem dX6_digest_143 : decode cX6_digest 143 = .ok (.iload_n 3, 1) := by decide +kernel
theorem dX6_digest_144 : decode cX6_digest 144 = .ok (.iload 4, 2) := by decide +kernel
theorem dX6_digest_146 : decode cX6_digest 146 = .ok (.iconst 0, 1) := by decide +kernel
theorem dX6_digest_147 : decode cX6_digest 147 = .ok (.invokevirtual 245, 3) := by decide +kernel
theorem dX6_digest_150 : decode cX6_digest 150 = .ok (.i2l, 1) := by decide +kernel
theorem dX6_digest_151 : decode cX6_digest 151 = .ok (.ladd, 1) := by decide +kernel
theorem dX6_digest_152 : decode cX6_digest 152 = .ok (.lstore_n 1, 1) := by decide +kernel
theorem dX6_digest_153 : decode cX6_digest 153 = .ok (.ldc2_w 234, 3) := by decide +kernel
theorem dX6_digest_156 : decode cX6_digest 156 = .ok (.lload_n 1, 1) := by decide +kernel
theorem dX6_digest_157 : decode cX6_digest 157 = .ok (.lmul, 1) := by decide +kernel
theorem dX6_digest_158 : decode cX6_digest 158 = .ok (.aload_n 0, 1) := by decide +kernel
theorem dX6_digest_159 : decode cX6_digest 159 = .ok (.iload_n 3, 1) := by decide +kernel
theorem dX6_digest_160 : decode cX6_digest 160 = .ok (.iload 4, 2) := by decide +kernel
theorem dX6_digest_162 : decode cX6_digest 162 = .ok (.iconst 1, 1) := by decide +kernel
theorem dX6_digest_163 : decode cX6_digest 163 = .ok (.invokevirtual 245, 3) := by decide +kernel
theorem dX6_digest_166 : decode cX6_digest 166 = .ok (.i2l, 1) := by decide +kernel
theorem dX6_digest_167 : decode cX6_digest 167 = .ok (.ladd, 1) := by decide +kernel
theorem dX6_digest_168 : decode cX6_digest 168 = .ok (.lstore_n 1, 1) := by decide +kernel
theorem dX6_digest_169 : decode cX6_digest 169 = .ok (.iinc 4 1, 3) := by decide +kernel
theorem dX6_digest_172 : decode cX6_digest 172 = .ok (.goto (-47), 3) := by decide +kernel
theorem dX6_digest_175 : decode cX6_digest 175 = .ok (.iinc 3 1, 3) := by decide +kernel
theorem dX6_digest_178 : decode cX6_digest 178 = .ok (.goto (-67), 3) := by decide +kernel
theorem dX6_digest_181 : decode cX6_digest 181 = .ok (.aload_n 0, 1) := by decide +kernel
theorem dX6_digest_182 : decode cX6_digest 182 = .ok (.getfield 40, 3) := by decide +kernel
theorem dX6_digest_185 : decode cX6_digest 185 = .ok (.aload_n 0, 1) := by decide +kernel
theorem dX6_digest_186 : decode cX6_digest 186 = .ok (.getfield 10, 3) := by decide +kernel
theorem dX6_digest_189 : decode cX6_digest 189 = .ok (.invokevirtual 192, 3) := by decide +kernel
theorem dX6_digest_192 : decode cX6_digest 192 = .ok (.iconst 0, 1) := by decide +kernel
theorem dX6_digest_193 : decode cX6_digest 193 = .ok (.istore_n 3, 1) := by decide +kernel
theorem dX6_digest_194 : decode cX6_digest 194 = .ok (.iload_n 3, 1) := by decide +kernel
theorem dX6_digest_195 : decode cX6_digest 195 = .ok (.iconst 4, 1) := by decide +kernel
theorem dX6_digest_196 : decode cX6_digest 196 = .ok (.if_icmp .ge 26, 3) := by decide +kernel
theorem dX6_digest_199 : decode cX6_digest 199 = .ok (.ldc2_w 234, 3) := by decide +kernel
theorem dX6_digest_202 : decode cX6_digest 202 = .ok (.lload_n 1, 1) := by decide +kernel
theorem dX6_digest_203 : decode cX6_digest 203 = .ok (.lmul, 1) := by decide +kernel
theorem dX6_digest_204 : decode cX6_digest 204 = .ok (.aload_n 0, 1) := by decide +kernel
theorem dX6_digest_205 : decode cX6_digest 205 = .ok (.getfield 40, 3) := by decide +kernel
theorem dX6_digest_208 : decode cX6_digest 208 = .ok (.getfield 201, 3) := by decide +kernel
theorem dX6_digest_211 : decode cX6_digest 211 = .ok (.iload_n 3, 1) := by decide +kernel
theorem dX6_digest_212 : decode cX6_digest 212 = .ok (.iaload, 1) := by decide +kernel
theorem dX6_digest_213 : decode cX6_digest 213 = .ok (.i2l, 1) := by decide +kernel
theorem dX6_digest_214 : decode cX6_digest 214 = .ok (.ladd, 1) := by decide +kernel
theorem dX6_digest_215 : decode cX6_digest 215 = .ok (.lstore_n 1, 1) := by decide +kernel
theorem dX6_digest_216 : decode cX6_digest 216 = .ok (.iinc 3 1, 3) := by decide +kernel
theorem dX6_digest_219 : decode cX6_digest 219 = .ok (.goto (-25), 3) := by decide +kernel
theorem dX6_digest_222 : decode cX6_digest 222 = .ok (.iconst 0, 1) := by decide +kernel
theorem dX6_digest_223 : decode cX6_digest 223 = .ok (.istore_n 3, 1) := by decide +kernel
theorem dX6_digest_224 : decode cX6_digest 224 = .ok (.iload_n 3, 1) := by decide +kernel
theorem dX6_digest_225 : decode cX6_digest 225 = .ok (.aload_n 0, 1) := by decide +kernel
theorem dX6_digest_226 : decode cX6_digest 226 = .ok (.getfield 10, 3) := by decide +kernel
theorem dX6_digest_229 : decode cX6_digest 229 = .ok (.getfield 95, 3) := by decide +kernel
theorem dX6_digest_232 : decode cX6_digest 232 = .ok (.if_icmp .ge 37, 3) := by decide +kernel
theorem dX6_digest_235 : decode cX6_digest 235 = .ok (.aload_n 0, 1) := by decide +kernel
theorem dX6_digest_236 : decode cX6_digest 236 = .ok (.getfield 10, 3) := by decide +kernel
theorem dX6_digest_239 : decode cX6_digest 239 = .ok (.getfield 98, 3) := by decide +kernel
theorem dX6_digest_242 : decode cX6_digest 242 = .ok (.iload_n 3, 1) := by decide +kernel
theorem dX6_digest_243 : decode cX6_digest 243 = .ok (.aaload, 1) := by decide +kernel
theorem dX6_digest_244 : decode cX6_digest 244 = .ok (.getfield 112, 3) := by decide +kernel
theorem dX6_digest_247 : decode cX6_digest 247 = .ok (.ifCond .eq 16, 3) := by decide +kernel
theorem dX6_digest_250 : decode cX6_digest 250 = .ok (.ldc2_w 234, 3) := by decide +kernel
theorem dX6_digest_253 : decode cX6_digest 253 = .ok (.lload_n 1, 1) := by decide +kernel
theorem dX6_digest_254 : decode cX6_digest 254 = .ok (.lmul, 1) := by decide +kernel
theorem dX6_digest_255 : decode cX6_digest 255 = .ok (.aload_n 0, 1) := by decide +kernel
theorem dX6_digest_256 : decode cX6_digest 256 = .ok (.iload_n 3, 1) := by decide +kernel
theorem dX6_digest_257 : decode cX6_digest 257 = .ok (.invokevirtual 249, 3) := by decide +kernel
theorem dX6_digest_260 : decode cX6_digest 260 = .ok (.i2l, 1) := by decide +kernel
theorem dX6_digest_261 : decode cX6_digest 261 = .ok (.ladd, 1) := by decide +kernel
theorem dX6_digest_262 : decode cX6_digest 262 = .ok (.lstore_n 1, 1) := by decide +kernel
theorem dX6_digest_263 : decode cX6_digest 263 = .ok (.iinc 3 1, 3) := by decide +kernel
theorem dX6_digest_266 : decode cX6_digest 266 = .ok (.goto (-42), 3) := by decide +kernel
theorem dX6_digest_269 : decode cX6_digest 269 = .ok (.lload_n 1, 1) := by decide +kernel
theorem dX6_digest_270 : decode cX6_digest 270 = .ok (.lreturn, 1) := by decide +kernel
theorem dX6_isWithin_0 : decode cX6_isWithin 0 = .ok (.iload_n 0, 1) := by decide +kernel
theorem dX6_isWithin_1 : decode cX6_isWithin 1 = .ok (.iload_n 1, 1) := by decide +kernel
theorem dX6_isWithin_2 : decode cX6_isWithin 2 = .ok (.if_icmp .lt 12, 3) := by decide +kernel
theorem dX6_isWithin_5 : decode cX6_isWithin 5 = .ok (.iload_n 0, 1) := by decide +kernel
theorem dX6_isWithin_6 : decode cX6_isWithin 6 = .ok (.iload_n 2, 1) := by decide +kernel
theorem dX6_isWithin_7 : decode cX6_isWithin 7 = .ok (.if_icmp .gt 7, 3) := by decide +kernel
theorem dX6_isWithin_10 : decode cX6_isWithin 10 = .ok (.iconst 1, 1) := by decide +kernel
theorem dX6_isWithin_11 : decode cX6_isWithin 11 = .ok (.goto 4, 3) := by decide +kernel
theorem dX6_isWithin_14 : decode cX6_isWithin 14 = .ok (.iconst 0, 1) := by decide +kernel
theorem dX6_isWithin_15 : decode cX6_isWithin 15 = .ok (.ireturn, 1) := by decide +kernel
theorem dX6_placedProperty_0 : decode cX6_placedProperty 0 = .ok (.aload_n 0, 1) := by decide +kernel
theorem dX6_placedProperty_1 : decode cX6_placedProperty 1 = .ok (.getfield 10, 3) := by decide +kernel
theorem dX6_placedProperty_4 : decode cX6_placedProperty 4 = .ok (.getfield 98, 3) := by decide +kernel
theorem dX6_placedProperty_7 : decode cX6_placedProperty 7 = .ok (.iload_n 1, 1) := by decide +kernel
theorem dX6_placedProperty_8 : decode cX6_placedProperty 8 = .ok (.aaload, 1) := by decide +kernel
theorem dX6_placedProperty_9 : decode cX6_placedProperty 9 = .ok (.astore_n 3, 1) := by decide +kernel
theorem dX6_placedProperty_10 : decode cX6_placedProperty 10 = .ok (.iload_n 2, 1) := by decide +kernel
theorem dX6_placedProperty_11 : decode cX6_placedProperty 11 = .ok (.tableswitch 126 7 14 #[45, 50, 55, 60, 65, 84, 93, 110], 45) := by decide +kernel
theorem dX6_placedProperty_56 : decode cX6_placedProperty 56 = .ok (.aload_n 3, 1) := by decide +kernel
theorem dX6_placedProperty_57 : decode cX6_placedProperty 57 = .ok (.getfield 252, 3) := by decide +kernel
theorem dX6_placedProperty_60 : decode cX6_placedProperty 60 = .ok (.ireturn, 1) := by decide +kernel
theorem dX6_placedProperty_61 : decode cX6_placedProperty 61 = .ok (.aload_n 3, 1) := by decide +kernel
theorem dX6_placedProperty_62 : decode cX6_placedProperty 62 = .ok (.getfield 255, 3) := by decide +kernel
theorem dX6_placedProperty_65 : decode cX6_placedProperty 65 = .ok (.ireturn, 1) := by decide +kernel
theorem dX6_placedProperty_66 : decode cX6_placedProperty 66 = .ok (.aload_n 3, 1) := by decide +kernel
theorem dX6_placedProperty_67 : decode cX6_placedProperty 67 = .ok (.getfield 150, 3) := by decide +kernel
theorem dX6_placedProperty_70 : decode cX6_placedProperty 70 = .ok (.ireturn, 1) := by decide +kernel
theorem dX6_placedProperty_71 : decode cX6_placedProperty 71 = .ok (.aload_n 3, 1) := by decide +kernel
theorem dX6_placedProperty_72 : decode cX6_placedProperty 72 = .ok (.getfield 167, 3) := by decide +kernel
theorem dX6_placedProperty_75 : decode cX6_placedProperty 75 = .ok (.ireturn, 1) := by decide +kernel
theorem dX6_placedProperty_76 : decode cX6_placedProperty 76 = .ok (.aload_n 0, 1) := by decide +kernel
theorem dX6_placedProperty_77 : decode cX6_placedProperty 77 = .ok (.getfield 10, 3) := by decide +kernel
theorem dX6_placedProperty_80 : decode cX6_placedProperty 80 = .ok (.iload_n 1, 1) := by decide +kernel
theorem dX6_placedProperty_81 : decode cX6_placedProperty 81 = .ok (.aload_n 0, 1) := by decide +kernel
theorem dX6_placedProperty_82 : decode cX6_placedProperty 82 = .ok (.getfield 10, 3) := by decide +kernel
theorem dX6_placedProperty_85 : decode cX6_placedProperty 85 = .ok (.invokevirtual 48, 3) := by decide +kernel
theorem dX6_placedProperty_88 : decode cX6_placedProperty 88 = .ok (.invokevirtual 258, 3) := by decide +kernel
theorem dX6_placedProperty_91 : decode cX6_placedProperty 91 = .ok (.invokestatic 52, 3) := by decide +kernel
theorem dX6_placedProperty_94 : decode cX6_placedProperty 94 = .ok (.ireturn, 1) := by decide +kernel
theorem dX6_placedProperty_95 : decode cX6_placedProperty 95 = .ok (.aload_n 0, 1) := by decide +kernel
theorem dX6_placedProperty_96 : decode cX6_placedProperty 96 = .ok (.getfield 10, 3) := by decide +kernel
theorem dX6_placedProperty_99 : decode cX6_placedProperty 99 = .ok (.iload_n 1, 1) := by decide +kernel
theorem dX6_placedProperty_100 : decode cX6_placedProperty 100 = .ok (.invokevirtual 261, 3) := by decide +kernel
theorem dX6_placedProperty_103 : decode cX6_placedProperty 103 = .ok (.ireturn, 1) := by decide +kernel
theorem dX6_placedProperty_104 : decode cX6_placedProperty 104 = .ok (.aload_n 0, 1) := by decide +kernel
theorem dX6_placedProperty_105 : decode cX6_placedProperty 105 = .ok (.getfield 10, 3) := by decide +kernel
theorem dX6_placedProperty_108 : decode cX6_placedProperty 108 = .ok (.iload_n 1, 1) := by decide +kernel
theorem dX6_placedProperty_109 : decode cX6_placedProperty 109 = .ok (.invokevirtual 151, 3) := by decide +kernel
theorem dX6_placedProperty_112 : decode cX6_placedProperty 112 = .ok (.ifCond .eq 7, 3) := by decide +kernel
theorem dX6_placedProperty_115 : decode cX6_placedProperty 115 = .ok (.iconst 1, 1) := by decide +kernel
theorem dX6_placedProperty_116 : decode cX6_placedProperty 116 = .ok (.goto 4, 3) := by decide +kernel
theorem dX6_placedProperty_119 : decode cX6_placedProperty 119 = .ok (.iconst 0, 1) := by decide +kernel
theorem dX6_placedProperty_120 : decode cX6_placedProperty 120 = .ok (.ireturn, 1) := by decide +kernel
theorem dX6_placedProperty_121 : decode cX6_placedProperty 121 = .ok (.aload_n 0, 1) := by decide +kernel
theorem dX6_placedProperty_122 : decode cX6_placedProperty 122 = .ok (.getfield 10, 3) := by decide +kernel
theorem dX6_placedProperty_125 : decode cX6_placedProperty 125 = .ok (.iload_n 1, 1) := by decide +kernel
theorem dX6_placedProperty_126 : decode cX6_placedProperty 126 = .ok (.aload_n 0, 1) := by decide +kernel
theorem dX6_placedProperty_127 : decode cX6_placedProperty 127 = .ok (.getfield 10, 3) := by decide +kernel
theorem dX6_placedProperty_130 : decode cX6_placedProperty 130 = .ok (.invokevirtual 48, 3) := by decide +kernel
theorem dX6_placedProperty_133 : decode cX6_placedProperty 133 = .ok (.invokevirtual 258, 3) := by decide +kernel
theorem dX6_placedProperty_136 : decode cX6_placedProperty 136 = .ok (.ireturn, 1) := by decide +kernel
theorem dX6_placedProperty_137 : decode cX6_placedProperty 137 = .ok (.aload_n 3, 1) := by decide +kernel
theorem dX6_placedProperty_138 : decode cX6_placedProperty 138 = .ok (.getfield 264, 3) := by decide +kernel
theorem dX6_placedProperty_141 : decode cX6_placedProperty 141 = .ok (.ireturn, 1) := by decide +kernel
theorem dX6_takeOverPacked_0 : decode cX6_takeOverPacked 0 = .ok (.aload_n 0, 1) := by decide +kernel
theorem dX6_takeOverPacked_1 : decode cX6_takeOverPacked 1 = .ok (.getfield 19, 3) := by decide +kernel
theorem dX6_takeOverPacked_4 : decode cX6_takeOverPacked 4 = .ok (.aload_n 0, 1) := by decide +kernel
theorem dX6_takeOverPacked_5 : decode cX6_takeOverPacked 5 = .ok (.getfield 10, 3) := by decide +kernel
theorem dX6_takeOverPacked_8 : decode cX6_takeOverPacked 8 = .ok (.invokevirtual 58, 3) := by decide +kernel
theorem dX6_takeOverPacked_11 : decode cX6_takeOverPacked 11 = .ok (.aload_n 0, 1) := by decide +kernel
theorem dX6_takeOverPacked_12 : decode cX6_takeOverPacked 12 = .ok (.getfield 10, 3) := by decide +kernel
theorem dX6_takeOverPacked_15 : decode cX6_takeOverPacked 15 = .ok (.aload_n 0, 1) := by decide +kernel
theorem dX6_takeOverPacked_16 : decode cX6_takeOverPacked 16 = .ok (.getfield 40, 3) := by decide +kernel
theorem dX6_takeOverPacked_19 : decode cX6_takeOverPacked 19 = .ok (.getfield 265, 3) := by decide +kernel
theorem dX6_takeOverPacked_22 : decode cX6_takeOverPacked 22 = .ok (.invokevirtual 89, 3) := by decide +kernel
theorem dX6_takeOverPacked_25 : decode cX6_takeOverPacked 25 = .ok (.aload_n 0, 1) := by decide +kernel
theorem dX6_takeOverPacked_26 : decode cX6_takeOverPacked 26 = .ok (.getfield 40, 3) := by decide +kernel
theorem dX6_takeOverPacked_29 : decode cX6_takeOverPacked 29 = .ok (.getfield 201, 3) := by decide +kernel
theorem dX6_takeOverPacked_32 : decode cX6_takeOverPacked 32 = .ok (.iconst 0, 1) := by decide +kernel
theorem dX6_takeOverPacked_33 : decode cX6_takeOverPacked 33 = .ok (.iaload, 1) := by decide +kernel
theorem dX6_takeOverPacked_34 : decode cX6_takeOverPacked 34 = .ok (.ireturn, 1) := by decide +kernel
theorem dX7_init_0 : decode cX7_init 0 = .ok (.aload_n 0, 1) := by decide +kernel
theorem dX7_init_1 : decode cX7_init 1 = .ok (.invokespecial 1, 3) := by decide +kernel
theorem dX7_init_4 : decode cX7_init 4 = .ok (.aload_n 0, 1) := by decide +kernel
theorem dX7_init_5 : decode cX7_init 5 = .ok (.sipush 1375, 3) := by decide +kernel
theorem dX7_init_8 : decode cX7_init 8 = .ok (.newarray .int, 2) := by decide +kernel
theorem dX7_init_10 : decode cX7_init 10 = .ok (.putfield 7, 3) := by decide +kernel
theorem dX7_init_13 : decode cX7_init 13 = .ok (.aload_n 0, 1) := by decide +kernel
theorem dX7_init_14 : decode cX7_init 14 = .ok (.bipush 100, 2) := by decide +kernel
theorem dX7_init_16 : decode cX7_init 16 = .ok (.newarray .int, 2) := by decide +kernel
theorem dX7_init_18 : decode cX7_init 18 = .ok (.putfield 13, 3) := by decide +kernel
theorem dX7_init_21 : decode cX7_init 21 = .ok (.aload_n 0, 1) := by decide +kernel
theorem dX7_init_22 : decode cX7_init 22 = .ok (.bipush 100, 2) := by decide +kernel
theorem dX7_init_24 : decode cX7_init 24 = .ok (.newarray .int, 2) := by decide +kernel
theorem dX7_init_26 : decode cX7_init 26 = .ok (.putfield 16, 3) := by decide +kernel
theorem dX7_init_29 : decode cX7_init 29 = .ok (.aload_n 0, 1) := by decide +kernel
theorem dX7_init_30 : decode cX7_init 30 = .ok (.bipush 12, 2) := by decide +kernel
theorem dX7_init_32 : decode cX7_init 32 = .ok (.newarray .int, 2) := by decide +kernel
theorem dX7_init_34 : decode cX7_init 34 = .ok (.putfield 19, 3) := by decide +kernel
theorem dX7_init_37 : decode cX7_init 37 = .ok (.aload_n 0, 1) := by decide +kernel
theorem dX7_init_38 : decode cX7_init 38 = .ok (.bipush 12, 2) := by decide +kernel
theorem dX7_init_40 : decode cX7_init 40 = .ok (.newarray .int, 2) := by decide +kernel
theorem dX7_init_42 : decode cX7_init 42 = .ok (.putfield 22, 3) := by decide +kernel
theorem dX7_init_45 : decode cX7_init 45 = .ok (.aload_n 0, 1) := by decide +kernel
theorem dX7_init_46 : decode cX7_init 46 = .ok (.iconst 4, 1) := by decide +kernel
theorem dX7_init_47 : decode cX7_init 47 = .ok (.newarray .int, 2) := by decide +kernel
theorem dX7_init_49 : decode cX7_init 49 = .ok (.putfield 25, 3) := by decide +kernel
theorem dX7_init_52 : decode cX7_init 52 = .ok (.aload_n 0, 1) := by decide +kernel
theorem dX7_init_53 : decode cX7_init 53 = .ok (.bipush 12, 2) := by decide +kernel
theorem dX7_init_55 : decode cX7_init 55 = .ok (.newarray .int, 2) := by decide +kernel
theorem dX7_init_57 : decode cX7_init 57 = .ok (.putfield 28, 3) := by decide +kernel
theorem dX7_init_60 : decode cX7_init 60 = .ok (.aload_n 0, 1) := by decide +kernel
theorem dX7_init_61 : decode cX7_init 61 = .ok (.getfield 7, 3) := by decide +kernel
theorem dX7_init_64 : decode cX7_init 64 = .ok (.iconst 0, 1) := by decide +kernel
theorem dX7_init_65 : decode cX7_init 65 = .ok (.bipush 6, 2) := by decide +kernel
theorem dX7_init_67 : decode cX7_init 67 = .ok (.iastore, 1) := by decide +kernel
theorem dX7_init_68 : decode cX7_init 68 = .ok (.aload_n 0, 1) := by decide +kernel
theorem dX7_init_69 : decode cX7_init 69 = .ok (.getfield 7, 3) := by decide +kernel
theorem dX7_init_72 : decode cX7_init 72 = .ok (.iconst 1, 1) := by decide +kernel
theorem dX7_init_73 : decode cX7_init 73 = .ok (.bipush 6, 2) := by decide +kernel
theorem dX7_init_75 : decode cX7_init 75 = .ok (.iastore, 1) := by decide +kernel
theorem dX7_init_76 : decode cX7_init 76 = .ok (.aload_n 0, 1) := by decide +kernel
theorem dX7_init_77 : decode cX7_init 77 = .ok (.getfield 7, 3) := by decide +kernel
theorem dX7_init_80 : decode cX7_init 80 = .ok (.iconst 2, 1) := by decide +kernel
theorem dX7_init_81 : decode cX7_init 81 = .ok (.bipush 12, 2) := by decide +kernel
theorem dX7_init_83 : decode cX7_init 83 = .ok (.iastore, 1) := by decide +kernel
theorem dX7_init_84 : decode cX7_init 84 = .ok (.aload_n 0, 1) := by decide +kernel
theorem dX7_init_85 : decode cX7_init 85 = .ok (.getfield 7, 3) := by decide +kernel
theorem dX7_init_88 : decode cX7_init 88 = .ok (.iconst 3, 1) := by decide +kernel
theorem dX7_init_89 : decode cX7_init 89 = .ok (.bipush 50, 2) := by decide +kernel
theorem dX7_init_91 : decode cX7_init 91 = .ok (.iastore, 1) := by decide +kernel
theorem dX7_init_92 : decode cX7_init 92 = .ok (.return_, 1) := by decide +kernel
theorem dX7_in_0 : decode cX7_in 0 = .ok (.iload_n 0, 1) := by decide +kernel
theorem dX7_in_1 : decode cX7_in 1 = .ok (.iload_n 1, 1) := by decide +kernel
theorem dX7_in_2 : decode cX7_in 2 = .ok (.if_icmp .lt 12, 3) := by decide +kernel
theorem dX7_in_5 : decode cX7_in 5 = .ok (.iload_n 0, 1) := by decide +kernel
theorem dX7_in_6 : decode cX7_in 6 = .ok (.iload_n 2, 1) := by decide +kernel
theorem dX7_in_7 : decode cX7_in 7 = .ok (.if_icmp .gt 7, 3) := by decide +kernel
theorem dX7_in_10 : decode cX7_in 10 = .ok (.iconst 1, 1) := by decide +kernel
theorem dX7_in_11 : decode cX7_in 11 = .ok (.goto 4, 3) := by decide +kernel
theorem dX7_in_14 : decode cX7_in 14 = .ok (.iconst 0, 1) := by decide +kernel
theorem dX7_in_15 : decode cX7_in 15 = .ok (.ireturn, 1) := by decide +kernel
theorem dX7_copies_0 : decode cX7_copies 0 = .ok (.iconst 0, 1) := by decide +kernel
theorem dX7_copies_1 : decode cX7_copies 1 = .ok (.istore_n 3, 1) := by decide +kernel
theorem dX7_copies_2 : decode cX7_copies 2 = .ok (.iload_n 3, 1) := by decide +kernel
theorem dX7_copies_3 : decode cX7_copies 3 = .ok (.bipush 125, 2) := by decide +kernel
theorem dX7_copies_5 : decode cX7_copies 5 = .ok (.if_icmp .ge 31, 3) := by decide +kernel
theorem dX7_copies_8 : decode cX7_copies 8 = .ok (.aload_n 0, 1) := by decide +kernel
theorem dX7_copies_9 : decode cX7_copies 9 = .ok (.getfield 7, 3) := by decide +kernel
theorem dX7_copies_12 : decode cX7_copies 12 = .ok (.bipush 125, 2) := by decide +kernel
theorem dX7_copies_14 : decode cX7_copies 14 = .ok (.iload_n 2, 1) := by decide +kernel
theorem dX7_copies_15 : decode cX7_copies 15 = .ok (.imul, 1) := by decide +kernel
theorem dX7_copies_16 : decode cX7_copies 16 = .ok (.iload_n 3, 1) := by decide +kernel
theorem dX7_copies_17 : decode cX7_copies 17 = .ok (.iadd, 1) := by decide +kernel
theorem dX7_copies_18 : decode cX7_copies 18 = .ok (.aload_n 0, 1) := by decide +kernel
theorem dX7_copies_19 : decode cX7_copies 19 = .ok (.getfield 7, 3) := by decide +kernel
theorem dX7_copies_22 : decode cX7_copies 22 = .ok (.bipush 125, 2) := by decide +kernel
theorem dX7_copies_24 : decode cX7_copies 24 = .ok (.iload_n 1, 1) := by decide +kernel
theorem dX7_copies_25 : decode cX7_copies 25 = .ok (.imul, 1) := by decide +kernel
theorem dX7_copies_26 : decode cX7_copies 26 = .ok (.iload_n 3, 1) := by decide +kernel
theorem dX7_copies_27 : decode cX7_copies 27 = .ok (.iadd, 1) := by decide +kernel
theorem dX7_copies_28 : decode cX7_copies 28 = .ok (.iaload, 1) := by decide +kernel
theorem dX7_copies_29 : decode cX7_copies 29 = .ok (.iastore, 1) := by decide +kernel
theorem dX7_copies_30 : decode cX7_copies 30 = .ok (.iinc 3 1, 3) := by decide +kernel
theorem dX7_copies_33 : decode cX7_copies 33 = .ok (.goto (-31), 3) := by decide +kernel
theorem dX7_copies_36 : decode cX7_copies 36 = .ok (.return_, 1) := by decide +kernel
theorem dX7_records_0 : decode cX7_records 0 = .ok (.aload_n 0, 1) := by decide +kernel
theorem dX7_records_1 : decode cX7_records 1 = .ok (.getfield 31, 3) := by decide +kernel
theorem dX7_records_4 : decode cX7_records 4 = .ok (.bipush 8, 2) := by decide +kernel
theorem dX7_records_6 : decode cX7_records 6 = .ok (.if_icmp .ne 35, 3) := by decide +kernel
theorem dX7_records_9 : decode cX7_records 9 = .ok (.iconst 1, 1) := by decide +kernel
theorem dX7_records_10 : decode cX7_records 10 = .ok (.istore_n 1, 1) := by decide +kernel
theorem dX7_records_11 : decode cX7_records 11 = .ok (.iload_n 1, 1) := by decide +kernel
theorem dX7_records_12 : decode cX7_records 12 = .ok (.bipush 8, 2) := by decide +kernel
theorem dX7_records_14 : decode cX7_records 14 = .ok (.if_icmp .ge 17, 3) := by decide +kernel
theorem dX7_records_17 : decode cX7_records 17 = .ok (.aload_n 0, 1) := by decide +kernel
theorem dX7_records_18 : decode cX7_records 18 = .ok (.iload_n 1, 1) := by decide +kernel
theorem dX7_records_19 : decode cX7_records 19 = .ok (.iconst 1, 1) := by decide +kernel
theorem dX7_records_20 : decode cX7_records 20 = .ok (.iadd, 1) := by decide +kernel
theorem dX7_records_21 : decode cX7_records 21 = .ok (.iload_n 1, 1) := by decide +kernel
theorem dX7_records_22 : decode cX7_records 22 = .ok (.invokevirtual 35, 3) := by decide +kernel
theorem dX7_records_25 : decode cX7_records 25 = .ok (.iinc 1 1, 3) := by decide +kernel
theorem dX7_records_28 : decode cX7_records 28 = .ok (.goto (-17), 3) := by decide +kernel
theorem dX7_records_31 : decode cX7_records 31 = .ok (.aload_n 0, 1) := by decide +kernel
theorem dX7_records_32 : decode cX7_records 32 = .ok (.dup, 1) := by decide +kernel
theorem dX7_records_33 : decode cX7_records 33 = .ok (.getfield 31, 3) := by decide +kernel
theorem dX7_records_36 : decode cX7_records 36 = .ok (.iconst 1, 1) := by decide +kernel
theorem dX7_records_37 : decode cX7_records 37 = .ok (.isub, 1) := by decide +kernel
theorem dX7_records_38 : decode cX7_records 38 = .ok (.putfield 31, 3) := by decide +kernel
theorem dX7_records_41 : decode cX7_records 41 = .ok (.aload_n 0, 1) := by decide +kernel
theorem dX7_records_42 : decode cX7_records 42 = .ok (.dup, 1) := by decide +kernel
theorem dX7_records_43 : decode cX7_records 43 = .ok (.getfield 31, 3) := by decide +kernel
theorem dX7_records_46 : decode cX7_records 46 = .ok (.iconst 1, 1) := by decide +kernel
theorem dX7_records_47 : decode cX7_records 47 = .ok (.iadd, 1) := by decide +kernel
theorem dX7_records_48 : decode cX7_records 48 = .ok (.putfield 31, 3) := by decide +kernel
theorem dX7_records_51 : decode cX7_records 51 = .ok (.aload_n 0, 1) := by decide +kernel
theorem dX7_records_52 : decode cX7_records 52 = .ok (.iconst 0, 1) := by decide +kernel
theorem dX7_records_53 : decode cX7_records 53 = .ok (.aload_n 0, 1) := by decide +kernel
theorem dX7_records_54 : decode cX7_records 54 = .ok (.getfield 31, 3) := by decide +kernel
theorem dX7_records_57 : decode cX7_records 57 = .ok (.invokevirtual 35, 3) := by decide +kernel
theorem dX7_records_60 : decode cX7_records 60 = .ok (.return_, 1) := by decide +kernel
theorem dX7_undo_0 : decode cX7_undo 0 = .ok (.aload_n 0, 1) := by decide +kernel
theorem dX7_undo_1 : decode cX7_undo 1 = .ok (.getfield 31, 3) := by decide +kernel
theorem dX7_undo_4 : decode cX7_undo 4 = .ok (.ifCond .ne 6, 3) := by decide +kernel
theorem dX7_undo_7 : decode cX7_undo 7 = .ok (.bipush (-2), 2) := by decide +kernel
theorem dX7_undo_9 : decode cX7_undo 9 = .ok (.ireturn, 1) := by decide +kernel
theorem dX7_undo_10 : decode cX7_undo 10 = .ok (.aload_n 0, 1) := by decide +kernel
theorem dX7_undo_11 : decode cX7_undo 11 = .ok (.aload_n 0, 1) := by decide +kernel
theorem dX7_undo_12 : decode cX7_undo 12 = .ok (.getfield 31, 3) := by decide +kernel
theorem dX7_undo_15 : decode cX7_undo 15 = .ok (.iconst 0, 1) := by decide +kernel
theorem dX7_undo_16 : decode cX7_undo 16 = .ok (.invokevirtual 35, 3) := by decide +kernel
theorem dX7_undo_19 : decode cX7_undo 19 = .ok (.aload_n 0, 1) := by decide +kernel
theorem dX7_undo_20 : decode cX7_undo 20 = .ok (.dup, 1) := by decide +kernel
theorem dX7_undo_21 : decode cX7_undo 21 = .ok (.getfield 31, 3) := by decide +kernel
theorem dX7_undo_24 : decode cX7_undo 24 = .ok (.iconst 1, 1) := by decide +kernel
theorem dX7_undo_25 : decode cX7_undo 25 = .ok (.isub, 1) := by decide +kernel
theorem dX7_undo_26 : decode cX7_undo 26 = .ok (.putfield 31, 3) := by decide +kernel
theorem dX7_undo_29 : decode cX7_undo 29 = .ok (.aload_n 0, 1) := by decide +kernel
theorem dX7_undo_30 : decode cX7_undo 30 = .ok (.getfield 31, 3) := by decide +kernel
theorem dX7_undo_33 : decode cX7_undo 33 = .ok (.ireturn, 1) := by decide +kernel
theorem dX7_of_0 : decode cX7_of 0 = .ok (.aload_n 0, 1) := by decide +kernel
theorem dX7_of_1 : decode cX7_of 1 = .ok (.getfield 7, 3) := by decide +kernel
theorem dX7_of_4 : decode cX7_of 4 = .ok (.iconst 5, 1) := by decide +kernel
theorem dX7_of_5 : decode cX7_of 5 = .ok (.bipush 10, 2) := by decide +kernel
theorem dX7_of_7 : decode cX7_of 7 = .ok (.iload_n 1, 1) := by decide +kernel
theorem dX7_of_8 : decode cX7_of 8 = .ok (.imul, 1) := by decide +kernel
theorem dX7_of_9 : decode cX7_of 9 = .ok (.iadd, 1) := by decide +kernel
theorem dX7_of_10 : decode cX7_of 10 = .ok (.iload_n 2, 1) := by decide +kernel
theorem dX7_of_11 : decode cX7_of 11 = .ok (.iadd, 1) := by decide +kernel
theorem dX7_of_12 : decode cX7_of 12 = .ok (.iaload, 1) := by decide +kernel
theorem dX7_of_13 : decode cX7_of 13 = .ok (.ireturn, 1) := by decide +kernel
theorem dX7_sets_0 : decode cX7_sets 0 = .ok (.aload_n 0, 1) := by decide +kernel
theorem dX7_sets_1 : decode cX7_sets 1 = .ok (.getfield 7, 3) := by decide +kernel
theorem dX7_sets_4 : decode cX7_sets 4 = .ok (.iconst 5, 1) := by decide +kernel
theorem dX7_sets_5 : decode cX7_sets 5 = .ok (.bipush 10, 2) := by decide +kernel
theorem dX7_sets_7 : decode cX7_sets 7 = .ok (.iload_n 1, 1) := by decide +kernel
theorem dX7_sets_8 : decode cX7_sets 8 = .ok (.imul, 1) := by decide +kernel
theorem dX7_sets_9 : decode cX7_sets 9 = .ok (.iadd, 1) := by decide +kernel
theorem dX7_sets_10 : decode cX7_sets 10 = .ok (.iload_n 2, 1) := by decide +kernel
theorem dX7_sets_11 : decode cX7_sets 11 = .ok (.iadd, 1) := by decide +kernel
theorem dX7_sets_12 : decode cX7_sets 12 = .ok (.iload_n 3, 1) := by decide +kernel
theorem dX7_sets_13 : decode cX7_sets 13 = .ok (.iastore, 1) := by decide +kernel
theorem dX7_sets_14 : decode cX7_sets 14 = .ok (.return_, 1) := by decide +kernel
theorem dX7_trays_0 : decode cX7_trays 0 = .ok (.aload_n 0, 1) := by decide +kernel
theorem dX7_trays_1 : decode cX7_trays 1 = .ok (.getfield 7, 3) := by decide +kernel
theorem dX7_trays_4 : decode cX7_trays 4 = .ok (.iconst 4, 1) := by decide +kernel
theorem dX7_trays_5 : decode cX7_trays 5 = .ok (.iaload, 1) := by decide +kernel
theorem dX7_trays_6 : decode cX7_trays 6 = .ok (.ireturn, 1) := by decide +kernel
theorem dX7_isTray_0 : decode cX7_isTray 0 = .ok (.iload_n 1, 1) := by decide +kernel
theorem dX7_isTray_1 : decode cX7_isTray 1 = .ok (.iconst 0, 1) := by decide +kernel
theorem dX7_isTray_2 : decode cX7_isTray 2 = .ok (.aload_n 0, 1) := by decide +kernel
theorem dX7_isTray_3 : decode cX7_isTray 3 = .ok (.invokevirtual 39, 3) := by decide +kernel
theorem dX7_isTray_6 : decode cX7_isTray 6 = .ok (.iconst 1, 1) := by decide +kernel
theorem dX7_isTray_7 : decode cX7_isTray 7 = .ok (.isub, 1) := by decide +kernel
theorem dX7_isTray_8 : decode cX7_isTray 8 = .ok (.invokestatic 43, 3) := by decide +kernel
theorem dX7_isTray_11 : decode cX7_isTray 11 = .ok (.ireturn, 1) := by decide +kernel
theorem dX7_isIn_0 : decode cX7_isIn 0 = .ok (.aload_n 0, 1) := by decide +kernel
theorem dX7_isIn_1 : decode cX7_isIn 1 = .ok (.iload_n 1, 1) := by decide +kernel
theorem dX7_isIn_2 : decode cX7_isIn 2 = .ok (.iconst 5, 1) := by decide +kernel
theorem dX7_isIn_3 : decode cX7_isIn 3 = .ok (.invokevirtual 47, 3) := by decide +kernel
theorem dX7_isIn_6 : decode cX7_isIn 6 = .ok (.iconst 1, 1) := by decide +kernel
theorem dX7_isIn_7 : decode cX7_isIn 7 = .ok (.if_icmp .ne 7, 3) := by decide +kernel
theorem dX7_isIn_10 : decode cX7_isIn 10 = .ok (.iconst 1, 1) := by decide +kernel
theorem dX7_isIn_11 : decode cX7_isIn 11 = .ok (.goto 4, 3) := by decide +kernel
theorem dX7_isIn_14 : decode cX7_isIn 14 = .ok (.iconst 0, 1) := by decide +kernel
theorem dX7_isIn_15 : decode cX7_isIn 15 = .ok (.ireturn, 1) := by decide +kernel
theorem dX7_high_0 : decode cX7_high 0 = .ok (.aload_n 0, 1) := by decide +kernel
theorem dX7_high_1 : decode cX7_high 1 = .ok (.iload_n 1, 1) := by decide +kernel
theorem dX7_high_2 : decode cX7_high 2 = .ok (.iconst 2, 1) := by decide +kernel
theorem dX7_high_3 : decode cX7_high 3 = .ok (.invokevirtual 47, 3) := by decide +kernel
theorem dX7_high_6 : decode cX7_high 6 = .ok (.aload_n 0, 1) := by decide +kernel
theorem dX7_high_7 : decode cX7_high 7 = .ok (.iload_n 1, 1) := by decide +kernel
theorem dX7_high_8 : decode cX7_high 8 = .ok (.iconst 4, 1) := by decide +kernel
theorem dX7_high_9 : decode cX7_high 9 = .ok (.invokevirtual 47, 3) := by decide +kernel
theorem dX7_high_12 : decode cX7_high 12 = .ok (.iadd, 1) := by decide +kernel
theorem dX7_high_13 : decode cX7_high 13 = .ok (.ireturn, 1) := by decide +kernel
theorem dX7_top_0 : decode cX7_top 0 = .ok (.aload_n 0, 1) := by decide +kernel
theorem dX7_top_1 : decode cX7_top 1 = .ok (.iload_n 1, 1) := by decide +kernel
theorem dX7_top_2 : decode cX7_top 2 = .ok (.bipush 9, 2) := by decide +kernel
theorem dX7_top_4 : decode cX7_top 4 = .ok (.invokevirtual 47, 3) := by decide +kernel
theorem dX7_top_7 : decode cX7_top 7 = .ok (.aload_n 0, 1) := by decide +kernel
theorem dX7_top_8 : decode cX7_top 8 = .ok (.iload_n 1, 1) := by decide +kernel
theorem dX7_top_9 : decode cX7_top 9 = .ok (.invokevirtual 51, 3) := by decide +kernel
theorem dX7_top_12 : decode cX7_top 12 = .ok (.iadd, 1) := by decide +kernel
theorem dX7_top_13 : decode cX7_top 13 = .ok (.ireturn, 1) := by decide +kernel
theorem dX7_along_0 : decode cX7_along 0 = .ok (.aload_n 0, 1) := by decide +kernel
theorem dX7_along_1 : decode cX7_along 1 = .ok (.iload_n 1, 1) := by decide +kernel
end
section
theorem dX7_along_2 : decode cX7_along 2 = .ok (.iload_n 2, 1) := by decide +kernel
theorem dX7_along_3 : decode cX7_along 3 = .ok (.iload_n 3, 1) := by decide +kernel
theorem dX7_along_4 : decode cX7_along 4 = .ok (.if_icmp .eq 7, 3) := by decide +kernel
theorem dX7_along_7 : decode cX7_along 7 = .ok (.iconst 1, 1) := by decide +kernel
theorem dX7_along_8 : decode cX7_along 8 = .ok (.goto 4, 3) := by decide +kernel
theorem dX7_along_11 : decode cX7_along 11 = .ok (.iconst 0, 1) := by decide +kernel
theorem dX7_along_12 : decode cX7_along 12 = .ok (.invokevirtual 47, 3) := by decide +kernel
theorem dX7_along_15 : decode cX7_along 15 = .ok (.ireturn, 1) := by decide +kernel
theorem dX7_spans_0 : decode cX7_spans 0 = .ok (.aload_n 0, 1) := by decide +kernel
theorem dX7_spans_1 : decode cX7_spans 1 = .ok (.iload_n 1, 1) := by decide +kernel
theorem dX7_spans_2 : decode cX7_spans 2 = .ok (.iload_n 2, 1) := by decide +kernel
theorem dX7_spans_3 : decode cX7_spans 3 = .ok (.aload_n 0, 1) := by decide +kernel
theorem dX7_spans_4 : decode cX7_spans 4 = .ok (.iload_n 1, 1) := by decide +kernel
theorem dX7_spans_5 : decode cX7_spans 5 = .ok (.bipush 6, 2) := by decide +kernel
theorem dX7_spans_7 : decode cX7_spans 7 = .ok (.invokevirtual 47, 3) := by decide +kernel
theorem dX7_spans_10 : decode cX7_spans 10 = .ok (.iconst 1, 1) := by decide +kernel
theorem dX7_spans_11 : decode cX7_spans 11 = .ok (.if_icmp .ne 7, 3) := by decide +kernel
theorem dX7_spans_14 : decode cX7_spans 14 = .ok (.iconst 1, 1) := by decide +kernel
theorem dX7_spans_15 : decode cX7_spans 15 = .ok (.goto 4, 3) := by decide +kernel
theorem dX7_spans_18 : decode cX7_spans 18 = .ok (.iconst 0, 1) := by decide +kernel
theorem dX7_spans_19 : decode cX7_spans 19 = .ok (.invokevirtual 55, 3) := by decide +kernel
theorem dX7_spans_22 : decode cX7_spans 22 = .ok (.ireturn, 1) := by decide +kernel
theorem dX7_covers_0 : decode cX7_covers 0 = .ok (.iload_n 2, 1) := by decide +kernel
theorem dX7_covers_1 : decode cX7_covers 1 = .ok (.aload_n 0, 1) := by decide +kernel
theorem dX7_covers_2 : decode cX7_covers 2 = .ok (.iload_n 1, 1) := by decide +kernel
theorem dX7_covers_3 : decode cX7_covers 3 = .ok (.bipush 7, 2) := by decide +kernel
theorem dX7_covers_5 : decode cX7_covers 5 = .ok (.invokevirtual 47, 3) := by decide +kernel
theorem dX7_covers_8 : decode cX7_covers 8 = .ok (.aload_n 0, 1) := by decide +kernel
theorem dX7_covers_9 : decode cX7_covers 9 = .ok (.iload_n 1, 1) := by decide +kernel
theorem dX7_covers_10 : decode cX7_covers 10 = .ok (.bipush 7, 2) := by decide +kernel
theorem dX7_covers_12 : decode cX7_covers 12 = .ok (.invokevirtual 47, 3) := by decide +kernel
theorem dX7_covers_15 : decode cX7_covers 15 = .ok (.aload_n 0, 1) := by decide +kernel
theorem dX7_covers_16 : decode cX7_covers 16 = .ok (.iload_n 1, 1) := by decide +kernel
theorem dX7_covers_17 : decode cX7_covers 17 = .ok (.iconst 0, 1) := by decide +kernel
theorem dX7_covers_18 : decode cX7_covers 18 = .ok (.invokevirtual 59, 3) := by decide +kernel
theorem dX7_covers_21 : decode cX7_covers 21 = .ok (.iadd, 1) := by decide +kernel
theorem dX7_covers_22 : decode cX7_covers 22 = .ok (.iconst 1, 1) := by decide +kernel
theorem dX7_covers_23 : decode cX7_covers 23 = .ok (.isub, 1) := by decide +kernel
theorem dX7_covers_24 : decode cX7_covers 24 = .ok (.invokestatic 43, 3) := by decide +kernel
theorem dX7_covers_27 : decode cX7_covers 27 = .ok (.ifCond .eq 37, 3) := by decide +kernel
theorem dX7_covers_30 : decode cX7_covers 30 = .ok (.iload_n 3, 1) := by decide +kernel
theorem dX7_covers_31 : decode cX7_covers 31 = .ok (.aload_n 0, 1) := by decide +kernel
theorem dX7_covers_32 : decode cX7_covers 32 = .ok (.iload_n 1, 1) := by decide +kernel
theorem dX7_covers_33 : decode cX7_covers 33 = .ok (.bipush 8, 2) := by decide +kernel
theorem dX7_covers_35 : decode cX7_covers 35 = .ok (.invokevirtual 47, 3) := by decide +kernel
theorem dX7_covers_38 : decode cX7_covers 38 = .ok (.aload_n 0, 1) := by decide +kernel
theorem dX7_covers_39 : decode cX7_covers 39 = .ok (.iload_n 1, 1) := by decide +kernel
theorem dX7_covers_40 : decode cX7_covers 40 = .ok (.bipush 8, 2) := by decide +kernel
theorem dX7_covers_42 : decode cX7_covers 42 = .ok (.invokevirtual 47, 3) := by decide +kernel
theorem dX7_covers_45 : decode cX7_covers 45 = .ok (.aload_n 0, 1) := by decide +kernel
theorem dX7_covers_46 : decode cX7_covers 46 = .ok (.iload_n 1, 1) := by decide +kernel
theorem dX7_covers_47 : decode cX7_covers 47 = .ok (.iconst 1, 1) := by decide +kernel
theorem dX7_covers_48 : decode cX7_covers 48 = .ok (.invokevirtual 59, 3) := by decide +kernel
theorem dX7_covers_51 : decode cX7_covers 51 = .ok (.iadd, 1) := by decide +kernel
theorem dX7_covers_52 : decode cX7_covers 52 = .ok (.iconst 1, 1) := by decide +kernel
theorem dX7_covers_53 : decode cX7_covers 53 = .ok (.isub, 1) := by decide +kernel
theorem dX7_covers_54 : decode cX7_covers 54 = .ok (.invokestatic 43, 3) := by decide +kernel
theorem dX7_covers_57 : decode cX7_covers 57 = .ok (.ifCond .eq 7, 3) := by decide +kernel
theorem dX7_covers_60 : decode cX7_covers 60 = .ok (.iconst 1, 1) := by decide +kernel
theorem dX7_covers_61 : decode cX7_covers 61 = .ok (.goto 4, 3) := by decide +kernel
theorem dX7_covers_64 : decode cX7_covers 64 = .ok (.iconst 0, 1) := by decide +kernel
theorem dX7_covers_65 : decode cX7_covers 65 = .ok (.ireturn, 1) := by decide +kernel
theorem dX7_leaves_0 : decode cX7_leaves 0 = .ok (.iconst 5, 1) := by decide +kernel
theorem dX7_leaves_1 : decode cX7_leaves 1 = .ok (.istore_n 2, 1) := by decide +kernel
theorem dX7_leaves_2 : decode cX7_leaves 2 = .ok (.iload_n 2, 1) := by decide +kernel
theorem dX7_leaves_3 : decode cX7_leaves 3 = .ok (.bipush 10, 2) := by decide +kernel
theorem dX7_leaves_5 : decode cX7_leaves 5 = .ok (.if_icmp .ge 16, 3) := by decide +kernel
theorem dX7_leaves_8 : decode cX7_leaves 8 = .ok (.aload_n 0, 1) := by decide +kernel
theorem dX7_leaves_9 : decode cX7_leaves 9 = .ok (.iload_n 1, 1) := by decide +kernel
theorem dX7_leaves_10 : decode cX7_leaves 10 = .ok (.iload_n 2, 1) := by decide +kernel
theorem dX7_leaves_11 : decode cX7_leaves 11 = .ok (.iconst 0, 1) := by decide +kernel
theorem dX7_leaves_12 : decode cX7_leaves 12 = .ok (.invokevirtual 63, 3) := by decide +kernel
theorem dX7_leaves_15 : decode cX7_leaves 15 = .ok (.iinc 2 1, 3) := by decide +kernel
theorem dX7_leaves_18 : decode cX7_leaves 18 = .ok (.goto (-16), 3) := by decide +kernel
theorem dX7_leaves_21 : decode cX7_leaves 21 = .ok (.return_, 1) := by decide +kernel
theorem dX7_inBox_0 : decode cX7_inBox 0 = .ok (.iconst 0, 1) := by decide +kernel
theorem dX7_inBox_1 : decode cX7_inBox 1 = .ok (.istore_n 1, 1) := by decide +kernel
theorem dX7_inBox_2 : decode cX7_inBox 2 = .ok (.iconst 0, 1) := by decide +kernel
theorem dX7_inBox_3 : decode cX7_inBox 3 = .ok (.istore_n 2, 1) := by decide +kernel
theorem dX7_inBox_4 : decode cX7_inBox 4 = .ok (.iload_n 2, 1) := by decide +kernel
theorem dX7_inBox_5 : decode cX7_inBox 5 = .ok (.aload_n 0, 1) := by decide +kernel
theorem dX7_inBox_6 : decode cX7_inBox 6 = .ok (.invokevirtual 39, 3) := by decide +kernel
theorem dX7_inBox_9 : decode cX7_inBox 9 = .ok (.if_icmp .ge 18, 3) := by decide +kernel
theorem dX7_inBox_12 : decode cX7_inBox 12 = .ok (.iload_n 1, 1) := by decide +kernel
theorem dX7_inBox_13 : decode cX7_inBox 13 = .ok (.aload_n 0, 1) := by decide +kernel
theorem dX7_inBox_14 : decode cX7_inBox 14 = .ok (.iload_n 2, 1) := by decide +kernel
theorem dX7_inBox_15 : decode cX7_inBox 15 = .ok (.iconst 5, 1) := by decide +kernel
theorem dX7_inBox_16 : decode cX7_inBox 16 = .ok (.invokevirtual 47, 3) := by decide +kernel
theorem dX7_inBox_19 : decode cX7_inBox 19 = .ok (.iadd, 1) := by decide +kernel
theorem dX7_inBox_20 : decode cX7_inBox 20 = .ok (.istore_n 1, 1) := by decide +kernel
theorem dX7_inBox_21 : decode cX7_inBox 21 = .ok (.iinc 2 1, 3) := by decide +kernel
theorem dX7_inBox_24 : decode cX7_inBox 24 = .ok (.goto (-20), 3) := by decide +kernel
theorem dX7_inBox_27 : decode cX7_inBox 27 = .ok (.iload_n 1, 1) := by decide +kernel
theorem dX7_inBox_28 : decode cX7_inBox 28 = .ok (.ireturn, 1) := by decide +kernel
theorem dX7_empties_0 : decode cX7_empties 0 = .ok (.iconst 0, 1) := by decide +kernel
theorem dX7_empties_1 : decode cX7_empties 1 = .ok (.istore_n 1, 1) := by decide +kernel
theorem dX7_empties_2 : decode cX7_empties 2 = .ok (.iload_n 1, 1) := by decide +kernel
theorem dX7_empties_3 : decode cX7_empties 3 = .ok (.aload_n 0, 1) := by decide +kernel
theorem dX7_empties_4 : decode cX7_empties 4 = .ok (.invokevirtual 39, 3) := by decide +kernel
theorem dX7_empties_7 : decode cX7_empties 7 = .ok (.if_icmp .ge 14, 3) := by decide +kernel
theorem dX7_empties_10 : decode cX7_empties 10 = .ok (.aload_n 0, 1) := by decide +kernel
theorem dX7_empties_11 : decode cX7_empties 11 = .ok (.iload_n 1, 1) := by decide +kernel
theorem dX7_empties_12 : decode cX7_empties 12 = .ok (.invokevirtual 67, 3) := by decide +kernel
theorem dX7_empties_15 : decode cX7_empties 15 = .ok (.iinc 1 1, 3) := by decide +kernel
theorem dX7_empties_18 : decode cX7_empties 18 = .ok (.goto (-16), 3) := by decide +kernel
theorem dX7_empties_21 : decode cX7_empties 21 = .ok (.return_, 1) := by decide +kernel
theorem dX7_laysTops_0 : decode cX7_laysTops 0 = .ok (.iconst 0, 1) := by decide +kernel
theorem dX7_laysTops_1 : decode cX7_laysTops 1 = .ok (.istore_n 1, 1) := by decide +kernel
theorem dX7_laysTops_2 : decode cX7_laysTops 2 = .ok (.iload_n 1, 1) := by decide +kernel
theorem dX7_laysTops_3 : decode cX7_laysTops 3 = .ok (.bipush 100, 2) := by decide +kernel
theorem dX7_laysTops_5 : decode cX7_laysTops 5 = .ok (.if_icmp .ge 16, 3) := by decide +kernel
theorem dX7_laysTops_8 : decode cX7_laysTops 8 = .ok (.aload_n 0, 1) := by decide +kernel
theorem dX7_laysTops_9 : decode cX7_laysTops 9 = .ok (.getfield 13, 3) := by decide +kernel
theorem dX7_laysTops_12 : decode cX7_laysTops 12 = .ok (.iload_n 1, 1) := by decide +kernel
theorem dX7_laysTops_13 : decode cX7_laysTops 13 = .ok (.iconst 0, 1) := by decide +kernel
theorem dX7_laysTops_14 : decode cX7_laysTops 14 = .ok (.iastore, 1) := by decide +kernel
theorem dX7_laysTops_15 : decode cX7_laysTops 15 = .ok (.iinc 1 1, 3) := by decide +kernel
theorem dX7_laysTops_18 : decode cX7_laysTops 18 = .ok (.goto (-16), 3) := by decide +kernel
theorem dX7_laysTops_21 : decode cX7_laysTops 21 = .ok (.iconst 0, 1) := by decide +kernel
theorem dX7_laysTops_22 : decode cX7_laysTops 22 = .ok (.istore_n 1, 1) := by decide +kernel
theorem dX7_laysTops_23 : decode cX7_laysTops 23 = .ok (.iload_n 1, 1) := by decide +kernel
theorem dX7_laysTops_24 : decode cX7_laysTops 24 = .ok (.aload_n 0, 1) := by decide +kernel
theorem dX7_laysTops_25 : decode cX7_laysTops 25 = .ok (.invokevirtual 39, 3) := by decide +kernel
theorem dX7_laysTops_28 : decode cX7_laysTops 28 = .ok (.if_icmp .ge 81, 3) := by decide +kernel
theorem dX7_laysTops_31 : decode cX7_laysTops 31 = .ok (.iconst 0, 1) := by decide +kernel
theorem dX7_laysTops_32 : decode cX7_laysTops 32 = .ok (.istore_n 2, 1) := by decide +kernel
theorem dX7_laysTops_33 : decode cX7_laysTops 33 = .ok (.iload_n 2, 1) := by decide +kernel
theorem dX7_laysTops_34 : decode cX7_laysTops 34 = .ok (.bipush 100, 2) := by decide +kernel
theorem dX7_laysTops_36 : decode cX7_laysTops 36 = .ok (.if_icmp .ge 67, 3) := by decide +kernel
theorem dX7_laysTops_39 : decode cX7_laysTops 39 = .ok (.aload_n 0, 1) := by decide +kernel
theorem dX7_laysTops_40 : decode cX7_laysTops 40 = .ok (.iload_n 1, 1) := by decide +kernel
theorem dX7_laysTops_41 : decode cX7_laysTops 41 = .ok (.invokevirtual 71, 3) := by decide +kernel
theorem dX7_laysTops_44 : decode cX7_laysTops 44 = .ok (.ifCond .eq 59, 3) := by decide +kernel
theorem dX7_laysTops_47 : decode cX7_laysTops 47 = .ok (.aload_n 0, 1) := by decide +kernel
theorem dX7_laysTops_48 : decode cX7_laysTops 48 = .ok (.getfield 13, 3) := by decide +kernel
theorem dX7_laysTops_51 : decode cX7_laysTops 51 = .ok (.iload_n 2, 1) := by decide +kernel
theorem dX7_laysTops_52 : decode cX7_laysTops 52 = .ok (.aload_n 0, 1) := by decide +kernel
theorem dX7_laysTops_53 : decode cX7_laysTops 53 = .ok (.iload_n 1, 1) := by decide +kernel
theorem dX7_laysTops_54 : decode cX7_laysTops 54 = .ok (.iload_n 2, 1) := by decide +kernel
theorem dX7_laysTops_55 : decode cX7_laysTops 55 = .ok (.bipush 10, 2) := by decide +kernel
theorem dX7_laysTops_57 : decode cX7_laysTops 57 = .ok (.idiv, 1) := by decide +kernel
theorem dX7_laysTops_58 : decode cX7_laysTops 58 = .ok (.iload_n 2, 1) := by decide +kernel
theorem dX7_laysTops_59 : decode cX7_laysTops 59 = .ok (.bipush 10, 2) := by decide +kernel
theorem dX7_laysTops_61 : decode cX7_laysTops 61 = .ok (.irem, 1) := by decide +kernel
theorem dX7_laysTops_62 : decode cX7_laysTops 62 = .ok (.invokevirtual 75, 3) := by decide +kernel
theorem dX7_laysTops_65 : decode cX7_laysTops 65 = .ok (.ifCond .eq 25, 3) := by decide +kernel
theorem dX7_laysTops_68 : decode cX7_laysTops 68 = .ok (.aload_n 0, 1) := by decide +kernel
theorem dX7_laysTops_69 : decode cX7_laysTops 69 = .ok (.iload_n 1, 1) := by decide +kernel
theorem dX7_laysTops_70 : decode cX7_laysTops 70 = .ok (.invokevirtual 78, 3) := by decide +kernel
theorem dX7_laysTops_73 : decode cX7_laysTops 73 = .ok (.aload_n 0, 1) := by decide +kernel
theorem dX7_laysTops_74 : decode cX7_laysTops 74 = .ok (.getfield 13, 3) := by decide +kernel
theorem dX7_laysTops_77 : decode cX7_laysTops 77 = .ok (.iload_n 2, 1) := by decide +kernel
theorem dX7_laysTops_78 : decode cX7_laysTops 78 = .ok (.iaload, 1) := by decide +kernel
theorem dX7_laysTops_79 : decode cX7_laysTops 79 = .ok (.if_icmp .le 11, 3) := by decide +kernel
theorem dX7_laysTops_82 : decode cX7_laysTops 82 = .ok (.aload_n 0, 1) := by decide +kernel
theorem dX7_laysTops_83 : decode cX7_laysTops 83 = .ok (.iload_n 1, 1) := by decide +kernel
theorem dX7_laysTops_84 : decode cX7_laysTops 84 = .ok (.invokevirtual 78, 3) := by decide +kernel
theorem dX7_laysTops_87 : decode cX7_laysTops 87 = .ok (.goto 9, 3) := by decide +kernel
theorem dX7_laysTops_90 : decode cX7_laysTops 90 = .ok (.aload_n 0, 1) := by decide +kernel
theorem dX7_laysTops_91 : decode cX7_laysTops 91 = .ok (.getfield 13, 3) := by decide +kernel
theorem dX7_laysTops_94 : decode cX7_laysTops 94 = .ok (.iload_n 2, 1) := by decide +kernel
theorem dX7_laysTops_95 : decode cX7_laysTops 95 = .ok (.iaload, 1) := by decide +kernel
theorem dX7_laysTops_96 : decode cX7_laysTops 96 = .ok (.iastore, 1) := by decide +kernel
theorem dX7_laysTops_97 : decode cX7_laysTops 97 = .ok (.iinc 2 1, 3) := by decide +kernel
theorem dX7_laysTops_100 : decode cX7_laysTops 100 = .ok (.goto (-67), 3) := by decide +kernel
theorem dX7_laysTops_103 : decode cX7_laysTops 103 = .ok (.iinc 1 1, 3) := by decide +kernel
theorem dX7_laysTops_106 : decode cX7_laysTops 106 = .ok (.goto (-83), 3) := by decide +kernel
theorem dX7_laysTops_109 : decode cX7_laysTops 109 = .ok (.return_, 1) := by decide +kernel
theorem dX7_isInside_0 : decode cX7_isInside 0 = .ok (.iload_n 2, 1) := by decide +kernel
theorem dX7_isInside_1 : decode cX7_isInside 1 = .ok (.ifCond .lt 49, 3) := by decide +kernel
theorem dX7_isInside_4 : decode cX7_isInside 4 = .ok (.iload_n 3, 1) := by decide +kernel
theorem dX7_isInside_5 : decode cX7_isInside 5 = .ok (.ifCond .lt 45, 3) := by decide +kernel
theorem dX7_isInside_8 : decode cX7_isInside 8 = .ok (.iload_n 2, 1) := by decide +kernel
theorem dX7_isInside_9 : decode cX7_isInside 9 = .ok (.aload_n 0, 1) := by decide +kernel
theorem dX7_isInside_10 : decode cX7_isInside 10 = .ok (.getfield 7, 3) := by decide +kernel
theorem dX7_isInside_13 : decode cX7_isInside 13 = .ok (.iconst 0, 1) := by decide +kernel
theorem dX7_isInside_14 : decode cX7_isInside 14 = .ok (.iaload, 1) := by decide +kernel
theorem dX7_isInside_15 : decode cX7_isInside 15 = .ok (.aload_n 0, 1) := by decide +kernel
theorem dX7_isInside_16 : decode cX7_isInside 16 = .ok (.iload_n 1, 1) := by decide +kernel
theorem dX7_isInside_17 : decode cX7_isInside 17 = .ok (.iconst 0, 1) := by decide +kernel
theorem dX7_isInside_18 : decode cX7_isInside 18 = .ok (.iload 4, 2) := by decide +kernel
theorem dX7_isInside_20 : decode cX7_isInside 20 = .ok (.invokevirtual 55, 3) := by decide +kernel
theorem dX7_isInside_23 : decode cX7_isInside 23 = .ok (.isub, 1) := by decide +kernel
theorem dX7_isInside_24 : decode cX7_isInside 24 = .ok (.if_icmp .gt 26, 3) := by decide +kernel
theorem dX7_isInside_27 : decode cX7_isInside 27 = .ok (.iload_n 3, 1) := by decide +kernel
theorem dX7_isInside_28 : decode cX7_isInside 28 = .ok (.aload_n 0, 1) := by decide +kernel
theorem dX7_isInside_29 : decode cX7_isInside 29 = .ok (.getfield 7, 3) := by decide +kernel
theorem dX7_isInside_32 : decode cX7_isInside 32 = .ok (.iconst 1, 1) := by decide +kernel
theorem dX7_isInside_33 : decode cX7_isInside 33 = .ok (.iaload, 1) := by decide +kernel
theorem dX7_isInside_34 : decode cX7_isInside 34 = .ok (.aload_n 0, 1) := by decide +kernel
theorem dX7_isInside_35 : decode cX7_isInside 35 = .ok (.iload_n 1, 1) := by decide +kernel
theorem dX7_isInside_36 : decode cX7_isInside 36 = .ok (.iconst 1, 1) := by decide +kernel
theorem dX7_isInside_37 : decode cX7_isInside 37 = .ok (.iload 4, 2) := by decide +kernel
theorem dX7_isInside_39 : decode cX7_isInside 39 = .ok (.invokevirtual 55, 3) := by decide +kernel
theorem dX7_isInside_42 : decode cX7_isInside 42 = .ok (.isub, 1) := by decide +kernel
theorem dX7_isInside_43 : decode cX7_isInside 43 = .ok (.if_icmp .gt 7, 3) := by decide +kernel
theorem dX7_isInside_46 : decode cX7_isInside 46 = .ok (.iconst 1, 1) := by decide +kernel
theorem dX7_isInside_47 : decode cX7_isInside 47 = .ok (.goto 4, 3) := by decide +kernel
theorem dX7_isInside_50 : decode cX7_isInside 50 = .ok (.iconst 0, 1) := by decide +kernel
theorem dX7_isInside_51 : decode cX7_isInside 51 = .ok (.ireturn, 1) := by decide +kernel
theorem dX7_looksAt_0 : decode cX7_looksAt 0 = .ok (.aload_n 0, 1) := by decide +kernel
theorem dX7_looksAt_1 : decode cX7_looksAt 1 = .ok (.iconst 0, 1) := by decide +kernel
theorem dX7_looksAt_2 : decode cX7_looksAt 2 = .ok (.putfield 81, 3) := by decide +kernel
theorem dX7_looksAt_5 : decode cX7_looksAt 5 = .ok (.aload_n 0, 1) := by decide +kernel
theorem dX7_looksAt_6 : decode cX7_looksAt 6 = .ok (.iconst 0, 1) := by decide +kernel
theorem dX7_looksAt_7 : decode cX7_looksAt 7 = .ok (.putfield 84, 3) := by decide +kernel
theorem dX7_looksAt_10 : decode cX7_looksAt 10 = .ok (.iload_n 2, 1) := by decide +kernel
theorem dX7_looksAt_11 : decode cX7_looksAt 11 = .ok (.istore 5, 2) := by decide +kernel
theorem dX7_looksAt_13 : decode cX7_looksAt 13 = .ok (.iload 5, 2) := by decide +kernel
theorem dX7_looksAt_15 : decode cX7_looksAt 15 = .ok (.iload_n 2, 1) := by decide +kernel
theorem dX7_looksAt_16 : decode cX7_looksAt 16 = .ok (.aload_n 0, 1) := by decide +kernel
theorem dX7_looksAt_17 : decode cX7_looksAt 17 = .ok (.iload_n 1, 1) := by decide +kernel
theorem dX7_looksAt_18 : decode cX7_looksAt 18 = .ok (.iconst 0, 1) := by decide +kernel
theorem dX7_looksAt_19 : decode cX7_looksAt 19 = .ok (.iload 4, 2) := by decide +kernel
theorem dX7_looksAt_21 : decode cX7_looksAt 21 = .ok (.invokevirtual 55, 3) := by decide +kernel
theorem dX7_looksAt_24 : decode cX7_looksAt 24 = .ok (.iadd, 1) := by decide +kernel
theorem dX7_looksAt_25 : decode cX7_looksAt 25 = .ok (.if_icmp .ge 114, 3) := by decide +kernel
theorem dX7_looksAt_28 : decode cX7_looksAt 28 = .ok (.iload_n 3, 1) := by decide +kernel
theorem dX7_looksAt_29 : decode cX7_looksAt 29 = .ok (.istore 6, 2) := by decide +kernel
theorem dX7_looksAt_31 : decode cX7_looksAt 31 = .ok (.iload 6, 2) := by decide +kernel
theorem dX7_looksAt_33 : decode cX7_looksAt 33 = .ok (.iload_n 3, 1) := by decide +kernel
theorem dX7_looksAt_34 : decode cX7_looksAt 34 = .ok (.aload_n 0, 1) := by decide +kernel
theorem dX7_looksAt_35 : decode cX7_looksAt 35 = .ok (.iload_n 1, 1) := by decide +kernel
theorem dX7_looksAt_36 : decode cX7_looksAt 36 = .ok (.iconst 1, 1) := by decide +kernel
theorem dX7_looksAt_37 : decode cX7_looksAt 37 = .ok (.iload 4, 2) := by decide +kernel
theorem dX7_looksAt_39 : decode cX7_looksAt 39 = .ok (.invokevirtual 55, 3) := by decide +kernel
theorem dX7_looksAt_42 : decode cX7_looksAt 42 = .ok (.iadd, 1) := by decide +kernel
theorem dX7_looksAt_43 : decode cX7_looksAt 43 = .ok (.if_icmp .ge 90, 3) := by decide +kernel
theorem dX7_looksAt_46 : decode cX7_looksAt 46 = .ok (.aload_n 0, 1) := by decide +kernel
theorem dX7_looksAt_47 : decode cX7_looksAt 47 = .ok (.getfield 13, 3) := by decide +kernel
theorem dX7_looksAt_50 : decode cX7_looksAt 50 = .ok (.bipush 10, 2) := by decide +kernel
theorem dX7_looksAt_52 : decode cX7_looksAt 52 = .ok (.iload 5, 2) := by decide +kernel
theorem dX7_looksAt_54 : decode cX7_looksAt 54 = .ok (.imul, 1) := by decide +kernel
theorem dX7_looksAt_55 : decode cX7_looksAt 55 = .ok (.iload 6, 2) := by decide +kernel
theorem dX7_looksAt_57 : decode cX7_looksAt 57 = .ok (.iadd, 1) := by decide +kernel
theorem dX7_looksAt_58 : decode cX7_looksAt 58 = .ok (.iaload, 1) := by decide +kernel
theorem dX7_looksAt_59 : decode cX7_looksAt 59 = .ok (.istore 7, 2) := by decide +kernel
theorem dX7_looksAt_61 : decode cX7_looksAt 61 = .ok (.aload_n 0, 1) := by decide +kernel
theorem dX7_looksAt_62 : decode cX7_looksAt 62 = .ok (.iload 7, 2) := by decide +kernel
theorem dX7_looksAt_64 : decode cX7_looksAt 64 = .ok (.aload_n 0, 1) := by decide +kernel
theorem dX7_looksAt_65 : decode cX7_looksAt 65 = .ok (.getfield 81, 3) := by decide +kernel
theorem dX7_looksAt_68 : decode cX7_looksAt 68 = .ok (.if_icmp .le 7, 3) := by decide +kernel
theorem dX7_looksAt_71 : decode cX7_looksAt 71 = .ok (.iconst 0, 1) := by decide +kernel
theorem dX7_looksAt_72 : decode cX7_looksAt 72 = .ok (.goto 7, 3) := by decide +kernel
theorem dX7_looksAt_75 : decode cX7_looksAt 75 = .ok (.aload_n 0, 1) := by decide +kernel
theorem dX7_looksAt_76 : decode cX7_looksAt 76 = .ok (.getfield 84, 3) := by decide +kernel
theorem dX7_looksAt_79 : decode cX7_looksAt 79 = .ok (.putfield 84, 3) := by decide +kernel
theorem dX7_looksAt_82 : decode cX7_looksAt 82 = .ok (.aload_n 0, 1) := by decide +kernel
theorem dX7_looksAt_83 : decode cX7_looksAt 83 = .ok (.iload 7, 2) := by decide +kernel
theorem dX7_looksAt_85 : decode cX7_looksAt 85 = .ok (.aload_n 0, 1) := by decide +kernel
theorem dX7_looksAt_86 : decode cX7_looksAt 86 = .ok (.getfield 81, 3) := by decide +kernel
theorem dX7_looksAt_89 : decode cX7_looksAt 89 = .ok (.if_icmp .le 8, 3) := by decide +kernel
theorem dX7_looksAt_92 : decode cX7_looksAt 92 = .ok (.iload 7, 2) := by decide +kernel
theorem dX7_looksAt_94 : decode cX7_looksAt 94 = .ok (.goto 7, 3) := by decide +kernel
theorem dX7_looksAt_97 : decode cX7_looksAt 97 = .ok (.aload_n 0, 1) := by decide +kernel
theorem dX7_looksAt_98 : decode cX7_looksAt 98 = .ok (.getfield 81, 3) := by decide +kernel
theorem dX7_looksAt_101 : decode cX7_looksAt 101 = .ok (.putfield 81, 3) := by decide +kernel
theorem dX7_looksAt_104 : decode cX7_looksAt 104 = .ok (.aload_n 0, 1) := by decide +kernel
theorem dX7_looksAt_105 : decode cX7_looksAt 105 = .ok (.dup, 1) := by decide +kernel
theorem dX7_looksAt_106 : decode cX7_looksAt 106 = .ok (.getfield 84, 3) := by decide +kernel
theorem dX7_looksAt_109 : decode cX7_looksAt 109 = .ok (.iload 7, 2) := by decide +kernel
theorem dX7_looksAt_111 : decode cX7_looksAt 111 = .ok (.aload_n 0, 1) := by decide +kernel
theorem dX7_looksAt_112 : decode cX7_looksAt 112 = .ok (.getfield 81, 3) := by decide +kernel
theorem dX7_looksAt_115 : decode cX7_looksAt 115 = .ok (.if_icmp .ne 7, 3) := by decide +kernel
theorem dX7_looksAt_118 : decode cX7_looksAt 118 = .ok (.iconst 1, 1) := by decide +kernel
theorem dX7_looksAt_119 : decode cX7_looksAt 119 = .ok (.goto 4, 3) := by decide +kernel
theorem dX7_looksAt_122 : decode cX7_looksAt 122 = .ok (.iconst 0, 1) := by decide +kernel
theorem dX7_looksAt_123 : decode cX7_looksAt 123 = .ok (.iadd, 1) := by decide +kernel
theorem dX7_looksAt_124 : decode cX7_looksAt 124 = .ok (.putfield 84, 3) := by decide +kernel
theorem dX7_looksAt_127 : decode cX7_looksAt 127 = .ok (.iinc 6 1, 3) := by decide +kernel
theorem dX7_looksAt_130 : decode cX7_looksAt 130 = .ok (.goto (-99), 3) := by decide +kernel
theorem dX7_looksAt_133 : decode cX7_looksAt 133 = .ok (.iinc 5 1, 3) := by decide +kernel
theorem dX7_looksAt_136 : decode cX7_looksAt 136 = .ok (.goto (-123), 3) := by decide +kernel
theorem dX7_looksAt_139 : decode cX7_looksAt 139 = .ok (.return_, 1) := by decide +kernel
theorem dX7_can_0 : decode cX7_can 0 = .ok (.aload_n 0, 1) := by decide +kernel
theorem dX7_can_1 : decode cX7_can 1 = .ok (.iload_n 1, 1) := by decide +kernel
theorem dX7_can_2 : decode cX7_can 2 = .ok (.iload_n 2, 1) := by decide +kernel
theorem dX7_can_3 : decode cX7_can 3 = .ok (.iload_n 3, 1) := by decide +kernel
theorem dX7_can_4 : decode cX7_can 4 = .ok (.iload 4, 2) := by decide +kernel
theorem dX7_can_6 : decode cX7_can 6 = .ok (.invokevirtual 87, 3) := by decide +kernel
theorem dX7_can_9 : decode cX7_can 9 = .ok (.aload_n 0, 1) := by decide +kernel
theorem dX7_can_10 : decode cX7_can 10 = .ok (.getfield 81, 3) := by decide +kernel
theorem dX7_can_13 : decode cX7_can 13 = .ok (.aload_n 0, 1) := by decide +kernel
theorem dX7_can_14 : decode cX7_can 14 = .ok (.iload_n 1, 1) := by decide +kernel
theorem dX7_can_15 : decode cX7_can 15 = .ok (.invokevirtual 51, 3) := by decide +kernel
theorem dX7_can_18 : decode cX7_can 18 = .ok (.iadd, 1) := by decide +kernel
theorem dX7_can_19 : decode cX7_can 19 = .ok (.aload_n 0, 1) := by decide +kernel
theorem dX7_can_20 : decode cX7_can 20 = .ok (.getfield 7, 3) := by decide +kernel
theorem dX7_can_23 : decode cX7_can 23 = .ok (.iconst 2, 1) := by decide +kernel
theorem dX7_can_24 : decode cX7_can 24 = .ok (.iaload, 1) := by decide +kernel
theorem dX7_can_25 : decode cX7_can 25 = .ok (.if_icmp .gt 37, 3) := by decide +kernel
theorem dX7_can_28 : decode cX7_can 28 = .ok (.bipush 100, 2) := by decide +kernel
theorem dX7_can_30 : decode cX7_can 30 = .ok (.aload_n 0, 1) := by decide +kernel
theorem dX7_can_31 : decode cX7_can 31 = .ok (.getfield 84, 3) := by decide +kernel
theorem dX7_can_34 : decode cX7_can 34 = .ok (.imul, 1) := by decide +kernel
theorem dX7_can_35 : decode cX7_can 35 = .ok (.aload_n 0, 1) := by decide +kernel
theorem dX7_can_36 : decode cX7_can 36 = .ok (.getfield 7, 3) := by decide +kernel
theorem dX7_can_39 : decode cX7_can 39 = .ok (.iconst 3, 1) := by decide +kernel
theorem dX7_can_40 : decode cX7_can 40 = .ok (.iaload, 1) := by decide +kernel
theorem dX7_can_41 : decode cX7_can 41 = .ok (.aload_n 0, 1) := by decide +kernel
theorem dX7_can_42 : decode cX7_can 42 = .ok (.iload_n 1, 1) := by decide +kernel
theorem dX7_can_43 : decode cX7_can 43 = .ok (.iconst 0, 1) := by decide +kernel
theorem dX7_can_44 : decode cX7_can 44 = .ok (.invokevirtual 47, 3) := by decide +kernel
theorem dX7_can_47 : decode cX7_can 47 = .ok (.imul, 1) := by decide +kernel
theorem dX7_can_48 : decode cX7_can 48 = .ok (.aload_n 0, 1) := by decide +kernel
theorem dX7_can_49 : decode cX7_can 49 = .ok (.iload_n 1, 1) := by decide +kernel
theorem dX7_can_50 : decode cX7_can 50 = .ok (.iconst 1, 1) := by decide +kernel
theorem dX7_can_51 : decode cX7_can 51 = .ok (.invokevirtual 47, 3) := by decide +kernel
theorem dX7_can_54 : decode cX7_can 54 = .ok (.imul, 1) := by decide +kernel
theorem dX7_can_55 : decode cX7_can 55 = .ok (.if_icmp .lt 7, 3) := by decide +kernel
theorem dX7_can_58 : decode cX7_can 58 = .ok (.iconst 1, 1) := by decide +kernel
theorem dX7_can_59 : decode cX7_can 59 = .ok (.goto 4, 3) := by decide +kernel
theorem dX7_can_62 : decode cX7_can 62 = .ok (.iconst 0, 1) := by decide +kernel
theorem dX7_can_63 : decode cX7_can 63 = .ok (.ireturn, 1) := by decide +kernel
theorem dX7_comes_0 : decode cX7_comes 0 = .ok (.aload_n 0, 1) := by decide +kernel
theorem dX7_comes_1 : decode cX7_comes 1 = .ok (.invokevirtual 91, 3) := by decide +kernel
theorem dX7_comes_4 : decode cX7_comes 4 = .ok (.aload_n 0, 1) := by decide +kernel
theorem dX7_comes_5 : decode cX7_comes 5 = .ok (.iload_n 1, 1) := by decide +kernel
theorem dX7_comes_6 : decode cX7_comes 6 = .ok (.iload_n 2, 1) := by decide +kernel
theorem dX7_comes_7 : decode cX7_comes 7 = .ok (.iload_n 3, 1) := by decide +kernel
theorem dX7_comes_8 : decode cX7_comes 8 = .ok (.iload 4, 2) := by decide +kernel
theorem dX7_comes_10 : decode cX7_comes 10 = .ok (.iconst 1, 1) := by decide +kernel
theorem dX7_comes_11 : decode cX7_comes 11 = .ok (.if_icmp .ne 7, 3) := by decide +kernel
theorem dX7_comes_14 : decode cX7_comes 14 = .ok (.iconst 1, 1) := by decide +kernel
theorem dX7_comes_15 : decode cX7_comes 15 = .ok (.goto 4, 3) := by decide +kernel
theorem dX7_comes_18 : decode cX7_comes 18 = .ok (.iconst 0, 1) := by decide +kernel
theorem dX7_comes_19 : decode cX7_comes 19 = .ok (.invokevirtual 87, 3) := by decide +kernel
theorem dX7_comes_22 : decode cX7_comes 22 = .ok (.aload_n 0, 1) := by decide +kernel
theorem dX7_comes_23 : decode cX7_comes 23 = .ok (.iload_n 1, 1) := by decide +kernel
theorem dX7_comes_24 : decode cX7_comes 24 = .ok (.iconst 5, 1) := by decide +kernel
theorem dX7_comes_25 : decode cX7_comes 25 = .ok (.iconst 1, 1) := by decide +kernel
theorem dX7_comes_26 : decode cX7_comes 26 = .ok (.invokevirtual 63, 3) := by decide +kernel
theorem dX7_comes_29 : decode cX7_comes 29 = .ok (.aload_n 0, 1) := by decide +kernel
theorem dX7_comes_30 : decode cX7_comes 30 = .ok (.iload_n 1, 1) := by decide +kernel
theorem dX7_comes_31 : decode cX7_comes 31 = .ok (.bipush 6, 2) := by decide +kernel
theorem dX7_comes_33 : decode cX7_comes 33 = .ok (.iload 4, 2) := by decide +kernel
theorem dX7_comes_35 : decode cX7_comes 35 = .ok (.invokevirtual 63, 3) := by decide +kernel
theorem dX7_comes_38 : decode cX7_comes 38 = .ok (.aload_n 0, 1) := by decide +kernel
theorem dX7_comes_39 : decode cX7_comes 39 = .ok (.iload_n 1, 1) := by decide +kernel
theorem dX7_comes_40 : decode cX7_comes 40 = .ok (.bipush 7, 2) := by decide +kernel
theorem dX7_comes_42 : decode cX7_comes 42 = .ok (.iload_n 2, 1) := by decide +kernel
theorem dX7_comes_43 : decode cX7_comes 43 = .ok (.invokevirtual 63, 3) := by decide +kernel
theorem dX7_comes_46 : decode cX7_comes 46 = .ok (.aload_n 0, 1) := by decide +kernel
theorem dX7_comes_47 : decode cX7_comes 47 = .ok (.iload_n 1, 1) := by decide +kernel
theorem dX7_comes_48 : decode cX7_comes 48 = .ok (.bipush 8, 2) := by decide +kernel
theorem dX7_comes_50 : decode cX7_comes 50 = .ok (.iload_n 3, 1) := by decide +kernel
theorem dX7_comes_51 : decode cX7_comes 51 = .ok (.invokevirtual 63, 3) := by decide +kernel
theorem dX7_comes_54 : decode cX7_comes 54 = .ok (.aload_n 0, 1) := by decide +kernel
theorem dX7_comes_55 : decode cX7_comes 55 = .ok (.iload_n 1, 1) := by decide +kernel
theorem dX7_comes_56 : decode cX7_comes 56 = .ok (.bipush 9, 2) := by decide +kernel
theorem dX7_comes_58 : decode cX7_comes 58 = .ok (.aload_n 0, 1) := by decide +kernel
theorem dX7_comes_59 : decode cX7_comes 59 = .ok (.getfield 81, 3) := by decide +kernel
theorem dX7_comes_62 : decode cX7_comes 62 = .ok (.invokevirtual 63, 3) := by decide +kernel
theorem dX7_comes_65 : decode cX7_comes 65 = .ok (.return_, 1) := by decide +kernel
theorem dX7_letDown_0 : decode cX7_letDown 0 = .ok (.aload_n 0, 1) := by decide +kernel
theorem dX7_letDown_1 : decode cX7_letDown 1 = .ok (.iload_n 1, 1) := by decide +kernel
theorem dX7_letDown_2 : decode cX7_letDown 2 = .ok (.invokevirtual 94, 3) := by decide +kernel
theorem dX7_letDown_5 : decode cX7_letDown 5 = .ok (.ifCond .eq 15, 3) := by decide +kernel
theorem dX7_letDown_8 : decode cX7_letDown 8 = .ok (.aload_n 0, 1) := by decide +kernel
theorem dX7_letDown_9 : decode cX7_letDown 9 = .ok (.iload_n 1, 1) := by decide +kernel
theorem dX7_letDown_10 : decode cX7_letDown 10 = .ok (.iload_n 2, 1) := by decide +kernel
theorem dX7_letDown_11 : decode cX7_letDown 11 = .ok (.iload_n 3, 1) := by decide +kernel
theorem dX7_letDown_12 : decode cX7_letDown 12 = .ok (.iload 4, 2) := by decide +kernel
theorem dX7_letDown_14 : decode cX7_letDown 14 = .ok (.invokevirtual 97, 3) := by decide +kernel
theorem dX7_letDown_17 : decode cX7_letDown 17 = .ok (.ifCond .ne 5, 3) := by decide +kernel
theorem dX7_letDown_20 : decode cX7_letDown 20 = .ok (.iconst (-1), 1) := by decide +kernel
theorem dX7_letDown_21 : decode cX7_letDown 21 = .ok (.ireturn, 1) := by decide +kernel
theorem dX7_letDown_22 : decode cX7_letDown 22 = .ok (.aload_n 0, 1) := by decide +kernel
theorem dX7_letDown_23 : decode cX7_letDown 23 = .ok (.iload_n 1, 1) := by decide +kernel
theorem dX7_letDown_24 : decode cX7_letDown 24 = .ok (.invokevirtual 71, 3) := by decide +kernel
theorem dX7_letDown_27 : decode cX7_letDown 27 = .ok (.ifCond .eq 6, 3) := by decide +kernel
theorem dX7_letDown_30 : decode cX7_letDown 30 = .ok (.bipush (-2), 2) := by decide +kernel
theorem dX7_letDown_32 : decode cX7_letDown 32 = .ok (.ireturn, 1) := by decide +kernel
theorem dX7_letDown_33 : decode cX7_letDown 33 = .ok (.aload_n 0, 1) := by decide +kernel
theorem dX7_letDown_34 : decode cX7_letDown 34 = .ok (.invokevirtual 91, 3) := by decide +kernel
theorem dX7_letDown_37 : decode cX7_letDown 37 = .ok (.aload_n 0, 1) := by decide +kernel
theorem dX7_letDown_38 : decode cX7_letDown 38 = .ok (.iload_n 1, 1) := by decide +kernel
theorem dX7_letDown_39 : decode cX7_letDown 39 = .ok (.iload_n 2, 1) := by decide +kernel
theorem dX7_letDown_40 : decode cX7_letDown 40 = .ok (.iload_n 3, 1) := by decide +kernel
theorem dX7_letDown_41 : decode cX7_letDown 41 = .ok (.iload 4, 2) := by decide +kernel
theorem dX7_letDown_43 : decode cX7_letDown 43 = .ok (.invokevirtual 101, 3) := by decide +kernel
theorem dX7_letDown_46 : decode cX7_letDown 46 = .ok (.ifCond .ne 6, 3) := by decide +kernel
theorem dX7_letDown_49 : decode cX7_letDown 49 = .ok (.bipush (-3), 2) := by decide +kernel
theorem dX7_letDown_51 : decode cX7_letDown 51 = .ok (.ireturn, 1) := by decide +kernel
theorem dX7_letDown_52 : decode cX7_letDown 52 = .ok (.aload_n 0, 1) := by decide +kernel
theorem dX7_letDown_53 : decode cX7_letDown 53 = .ok (.invokevirtual 104, 3) := by decide +kernel
theorem dX7_letDown_56 : decode cX7_letDown 56 = .ok (.aload_n 0, 1) := by decide +kernel
theorem dX7_letDown_57 : decode cX7_letDown 57 = .ok (.iload_n 1, 1) := by decide +kernel
theorem dX7_letDown_58 : decode cX7_letDown 58 = .ok (.iload_n 2, 1) := by decide +kernel
theorem dX7_letDown_59 : decode cX7_letDown 59 = .ok (.iload_n 3, 1) := by decide +kernel
theorem dX7_letDown_60 : decode cX7_letDown 60 = .ok (.iload 4, 2) := by decide +kernel
theorem dX7_letDown_62 : decode cX7_letDown 62 = .ok (.ifCond .eq 7, 3) := by decide +kernel
theorem dX7_letDown_65 : decode cX7_letDown 65 = .ok (.iconst 1, 1) := by decide +kernel
theorem dX7_letDown_66 : decode cX7_letDown 66 = .ok (.goto 4, 3) := by decide +kernel
theorem dX7_letDown_69 : decode cX7_letDown 69 = .ok (.iconst 0, 1) := by decide +kernel
theorem dX7_letDown_70 : decode cX7_letDown 70 = .ok (.invokevirtual 107, 3) := by decide +kernel
theorem dX7_letDown_73 : decode cX7_letDown 73 = .ok (.aload_n 0, 1) := by decide +kernel
theorem dX7_letDown_74 : decode cX7_letDown 74 = .ok (.iload_n 1, 1) := by decide +kernel
theorem dX7_letDown_75 : decode cX7_letDown 75 = .ok (.bipush 9, 2) := by decide +kernel
theorem dX7_letDown_77 : decode cX7_letDown 77 = .ok (.invokevirtual 47, 3) := by decide +kernel
theorem dX7_letDown_80 : decode cX7_letDown 80 = .ok (.ireturn, 1) := by decide +kernel
theorem dX7_meet_0 : decode cX7_meet 0 = .ok (.aload_n 0, 1) := by decide +kernel
theorem dX7_meet_1 : decode cX7_meet 1 = .ok (.iload_n 1, 1) := by decide +kernel
theorem dX7_meet_2 : decode cX7_meet 2 = .ok (.bipush 7, 2) := by decide +kernel
theorem dX7_meet_4 : decode cX7_meet 4 = .ok (.invokevirtual 47, 3) := by decide +kernel
theorem dX7_meet_7 : decode cX7_meet 7 = .ok (.aload_n 0, 1) := by decide +kernel
theorem dX7_meet_8 : decode cX7_meet 8 = .ok (.iload_n 2, 1) := by decide +kernel
theorem dX7_meet_9 : decode cX7_meet 9 = .ok (.bipush 7, 2) := by decide +kernel
theorem dX7_meet_11 : decode cX7_meet 11 = .ok (.invokevirtual 47, 3) := by decide +kernel
theorem dX7_meet_14 : decode cX7_meet 14 = .ok (.aload_n 0, 1) := by decide +kernel
theorem dX7_meet_15 : decode cX7_meet 15 = .ok (.iload_n 2, 1) := by decide +kernel
theorem dX7_meet_16 : decode cX7_meet 16 = .ok (.iconst 0, 1) := by decide +kernel
theorem dX7_meet_17 : decode cX7_meet 17 = .ok (.invokevirtual 59, 3) := by decide +kernel
theorem dX7_meet_20 : decode cX7_meet 20 = .ok (.iadd, 1) := by decide +kernel
theorem dX7_meet_21 : decode cX7_meet 21 = .ok (.if_icmp .ge 31, 3) := by decide +kernel
theorem dX7_meet_24 : decode cX7_meet 24 = .ok (.aload_n 0, 1) := by decide +kernel
theorem dX7_meet_25 : decode cX7_meet 25 = .ok (.iload_n 2, 1) := by decide +kernel
theorem dX7_meet_26 : decode cX7_meet 26 = .ok (.bipush 7, 2) := by decide +kernel
theorem dX7_meet_28 : decode cX7_meet 28 = .ok (.invokevirtual 47, 3) := by decide +kernel
theorem dX7_meet_31 : decode cX7_meet 31 = .ok (.aload_n 0, 1) := by decide +kernel
theorem dX7_meet_32 : decode cX7_meet 32 = .ok (.iload_n 1, 1) := by decide +kernel
theorem dX7_meet_33 : decode cX7_meet 33 = .ok (.bipush 7, 2) := by decide +kernel
theorem dX7_meet_35 : decode cX7_meet 35 = .ok (.invokevirtual 47, 3) := by decide +kernel
theorem dX7_meet_38 : decode cX7_meet 38 = .ok (.aload_n 0, 1) := by decide +kernel
theorem dX7_meet_39 : decode cX7_meet 39 = .ok (.iload_n 1, 1) := by decide +kernel
theorem dX7_meet_40 : decode cX7_meet 40 = .ok (.iconst 0, 1) := by decide +kernel
theorem dX7_meet_41 : decode cX7_meet 41 = .ok (.invokevirtual 59, 3) := by decide +kernel
theorem dX7_meet_44 : decode cX7_meet 44 = .ok (.iadd, 1) := by decide +kernel
theorem dX7_meet_45 : decode cX7_meet 45 = .ok (.if_icmp .ge 7, 3) := by decide +kernel
theorem dX7_meet_48 : decode cX7_meet 48 = .ok (.iconst 1, 1) := by decide +kernel
theorem dX7_meet_49 : decode cX7_meet 49 = .ok (.goto 4, 3) := by decide +kernel
theorem dX7_meet_52 : decode cX7_meet 52 = .ok (.iconst 0, 1) := by decide +kernel
theorem dX7_meet_53 : decode cX7_meet 53 = .ok (.istore_n 3, 1) := by decide +kernel
theorem dX7_meet_54 : decode cX7_meet 54 = .ok (.iload_n 3, 1) := by decide +kernel
theorem dX7_meet_55 : decode cX7_meet 55 = .ok (.ifCond .eq 55, 3) := by decide +kernel
theorem dX7_meet_58 : decode cX7_meet 58 = .ok (.aload_n 0, 1) := by decide +kernel
theorem dX7_meet_59 : decode cX7_meet 59 = .ok (.iload_n 1, 1) := by decide +kernel
theorem dX7_meet_60 : decode cX7_meet 60 = .ok (.bipush 8, 2) := by decide +kernel
theorem dX7_meet_62 : decode cX7_meet 62 = .ok (.invokevirtual 47, 3) := by decide +kernel
theorem dX7_meet_65 : decode cX7_meet 65 = .ok (.aload_n 0, 1) := by decide +kernel
theorem dX7_meet_66 : decode cX7_meet 66 = .ok (.iload_n 2, 1) := by decide +kernel
theorem dX7_meet_67 : decode cX7_meet 67 = .ok (.bipush 8, 2) := by decide +kernel
theorem dX7_meet_69 : decode cX7_meet 69 = .ok (.invokevirtual 47, 3) := by decide +kernel
theorem dX7_meet_72 : decode cX7_meet 72 = .ok (.aload_n 0, 1) := by decide +kernel
theorem dX7_meet_73 : decode cX7_meet 73 = .ok (.iload_n 2, 1) := by decide +kernel
theorem dX7_meet_74 : decode cX7_meet 74 = .ok (.iconst 1, 1) := by decide +kernel
theorem dX7_meet_75 : decode cX7_meet 75 = .ok (.invokevirtual 59, 3) := by decide +kernel
theorem dX7_meet_78 : decode cX7_meet 78 = .ok (.iadd, 1) := by decide +kernel
theorem dX7_meet_79 : decode cX7_meet 79 = .ok (.if_icmp .ge 31, 3) := by decide +kernel
theorem dX7_meet_82 : decode cX7_meet 82 = .ok (.aload_n 0, 1) := by decide +kernel
theorem dX7_meet_83 : decode cX7_meet 83 = .ok (.iload_n 2, 1) := by decide +kernel
theorem dX7_meet_84 : decode cX7_meet 84 = .ok (.bipush 8, 2) := by decide +kernel
theorem dX7_meet_86 : decode cX7_meet 86 = .ok (.invokevirtual 47, 3) := by decide +kernel
theorem dX7_meet_89 : decode cX7_meet 89 = .ok (.aload_n 0, 1) := by decide +kernel
theorem dX7_meet_90 : decode cX7_meet 90 = .ok (.iload_n 1, 1) := by decide +kernel
theorem dX7_meet_91 : decode cX7_meet 91 = .ok (.bipush 8, 2) := by decide +kernel
theorem dX7_meet_93 : decode cX7_meet 93 = .ok (.invokevirtual 47, 3) := by decide +kernel
theorem dX7_meet_96 : decode cX7_meet 96 = .ok (.aload_n 0, 1) := by decide +kernel
theorem dX7_meet_97 : decode cX7_meet 97 = .ok (.iload_n 1, 1) := by decide +kernel
theorem dX7_meet_98 : decode cX7_meet 98 = .ok (.iconst 1, 1) := by decide +kernel
theorem dX7_meet_99 : decode cX7_meet 99 = .ok (.invokevirtual 59, 3) := by decide +kernel
theorem dX7_meet_102 : decode cX7_meet 102 = .ok (.iadd, 1) := by decide +kernel
theorem dX7_meet_103 : decode cX7_meet 103 = .ok (.if_icmp .ge 7, 3) := by decide +kernel
theorem dX7_meet_106 : decode cX7_meet 106 = .ok (.iconst 1, 1) := by decide +kernel
theorem dX7_meet_107 : decode cX7_meet 107 = .ok (.goto 4, 3) := by decide +kernel
theorem dX7_meet_110 : decode cX7_meet 110 = .ok (.iconst 0, 1) := by decide +kernel
theorem dX7_meet_111 : decode cX7_meet 111 = .ok (.ireturn, 1) := by decide +kernel
theorem dX7_liesOn_0 : decode cX7_liesOn 0 = .ok (.iload_n 1, 1) := by decide +kernel
theorem dX7_liesOn_1 : decode cX7_liesOn 1 = .ok (.iload_n 2, 1) := by decide +kernel
theorem dX7_liesOn_2 : decode cX7_liesOn 2 = .ok (.if_icmp .eq 47, 3) := by decide +kernel
theorem dX7_liesOn_5 : decode cX7_liesOn 5 = .ok (.aload_n 0, 1) := by decide +kernel
theorem dX7_liesOn_6 : decode cX7_liesOn 6 = .ok (.iload_n 1, 1) := by decide +kernel
theorem dX7_liesOn_7 : decode cX7_liesOn 7 = .ok (.invokevirtual 71, 3) := by decide +kernel
theorem dX7_liesOn_10 : decode cX7_liesOn 10 = .ok (.ifCond .eq 39, 3) := by decide +kernel
theorem dX7_liesOn_13 : decode cX7_liesOn 13 = .ok (.aload_n 0, 1) := by decide +kernel
theorem dX7_liesOn_14 : decode cX7_liesOn 14 = .ok (.iload_n 2, 1) := by decide +kernel
theorem dX7_liesOn_15 : decode cX7_liesOn 15 = .ok (.invokevirtual 71, 3) := by decide +kernel
theorem dX7_liesOn_18 : decode cX7_liesOn 18 = .ok (.ifCond .eq 31, 3) := by decide +kernel
theorem dX7_liesOn_21 : decode cX7_liesOn 21 = .ok (.aload_n 0, 1) := by decide +kernel
theorem dX7_liesOn_22 : decode cX7_liesOn 22 = .ok (.iload_n 1, 1) := by decide +kernel
theorem dX7_liesOn_23 : decode cX7_liesOn 23 = .ok (.iload_n 2, 1) := by decide +kernel
theorem dX7_liesOn_24 : decode cX7_liesOn 24 = .ok (.invokevirtual 111, 3) := by decide +kernel
theorem dX7_liesOn_27 : decode cX7_liesOn 27 = .ok (.ifCond .eq 22, 3) := by decide +kernel
theorem dX7_liesOn_30 : decode cX7_liesOn 30 = .ok (.aload_n 0, 1) := by decide +kernel
theorem dX7_liesOn_31 : decode cX7_liesOn 31 = .ok (.iload_n 1, 1) := by decide +kernel
theorem dX7_liesOn_32 : decode cX7_liesOn 32 = .ok (.bipush 9, 2) := by decide +kernel
theorem dX7_liesOn_34 : decode cX7_liesOn 34 = .ok (.invokevirtual 47, 3) := by decide +kernel
theorem dX7_liesOn_37 : decode cX7_liesOn 37 = .ok (.aload_n 0, 1) := by decide +kernel
theorem dX7_liesOn_38 : decode cX7_liesOn 38 = .ok (.iload_n 2, 1) := by decide +kernel
theorem dX7_liesOn_39 : decode cX7_liesOn 39 = .ok (.invokevirtual 78, 3) := by decide +kernel
theorem dX7_liesOn_42 : decode cX7_liesOn 42 = .ok (.if_icmp .lt 7, 3) := by decide +kernel
theorem dX7_liesOn_45 : decode cX7_liesOn 45 = .ok (.iconst 1, 1) := by decide +kernel
theorem dX7_liesOn_46 : decode cX7_liesOn 46 = .ok (.goto 4, 3) := by decide +kernel
theorem dX7_liesOn_49 : decode cX7_liesOn 49 = .ok (.iconst 0, 1) := by decide +kernel
theorem dX7_liesOn_50 : decode cX7_liesOn 50 = .ok (.ireturn, 1) := by decide +kernel
theorem dX7_above_0 : decode cX7_above 0 = .ok (.iconst 0, 1) := by decide +kernel
theorem dX7_above_1 : decode cX7_above 1 = .ok (.istore_n 2, 1) := by decide +kernel
theorem dX7_above_2 : decode cX7_above 2 = .ok (.iconst (-1), 1) := by decide +kernel
theorem dX7_above_3 : decode cX7_above 3 = .ok (.istore_n 3, 1) := by decide +kernel
theorem dX7_above_4 : decode cX7_above 4 = .ok (.iload_n 3, 1) := by decide +kernel
theorem dX7_above_5 : decode cX7_above 5 = .ok (.iload_n 2, 1) := by decide +kernel
theorem dX7_above_6 : decode cX7_above 6 = .ok (.if_icmp .eq 94, 3) := by decide +kernel
theorem dX7_above_9 : decode cX7_above 9 = .ok (.iload_n 2, 1) := by decide +kernel
theorem dX7_above_10 : decode cX7_above 10 = .ok (.istore_n 3, 1) := by decide +kernel
theorem dX7_above_11 : decode cX7_above 11 = .ok (.iconst 0, 1) := by decide +kernel
theorem dX7_above_12 : decode cX7_above 12 = .ok (.istore 4, 2) := by decide +kernel
theorem dX7_above_14 : decode cX7_above 14 = .ok (.iload 4, 2) := by decide +kernel
theorem dX7_above_16 : decode cX7_above 16 = .ok (.aload_n 0, 1) := by decide +kernel
theorem dX7_above_17 : decode cX7_above 17 = .ok (.invokevirtual 39, 3) := by decide +kernel
theorem dX7_above_20 : decode cX7_above 20 = .ok (.if_icmp .ge 77, 3) := by decide +kernel
theorem dX7_above_23 : decode cX7_above 23 = .ok (.iconst 0, 1) := by decide +kernel
theorem dX7_above_24 : decode cX7_above 24 = .ok (.istore 5, 2) := by decide +kernel
theorem dX7_above_26 : decode cX7_above 26 = .ok (.iload 5, 2) := by decide +kernel
theorem dX7_above_28 : decode cX7_above 28 = .ok (.aload_n 0, 1) := by decide +kernel
theorem dX7_above_29 : decode cX7_above 29 = .ok (.invokevirtual 39, 3) := by decide +kernel
theorem dX7_above_32 : decode cX7_above 32 = .ok (.if_icmp .ge 59, 3) := by decide +kernel
theorem dX7_above_35 : decode cX7_above 35 = .ok (.iload 5, 2) := by decide +kernel
theorem dX7_above_37 : decode cX7_above 37 = .ok (.iload_n 1, 1) := by decide +kernel
theorem dX7_above_38 : decode cX7_above 38 = .ok (.if_icmp .eq 13, 3) := by decide +kernel
theorem dX7_above_41 : decode cX7_above 41 = .ok (.iload_n 2, 1) := by decide +kernel
theorem dX7_above_42 : decode cX7_above 42 = .ok (.iload 5, 2) := by decide +kernel
theorem dX7_above_44 : decode cX7_above 44 = .ok (.ishr, 1) := by decide +kernel
theorem dX7_above_45 : decode cX7_above 45 = .ok (.iconst 1, 1) := by decide +kernel
theorem dX7_above_46 : decode cX7_above 46 = .ok (.iand, 1) := by decide +kernel
theorem dX7_above_47 : decode cX7_above 47 = .ok (.iconst 1, 1) := by decide +kernel
theorem dX7_above_48 : decode cX7_above 48 = .ok (.if_icmp .ne 7, 3) := by decide +kernel
theorem dX7_above_51 : decode cX7_above 51 = .ok (.iconst 1, 1) := by decide +kernel
theorem dX7_above_52 : decode cX7_above 52 = .ok (.goto 4, 3) := by decide +kernel
theorem dX7_above_55 : decode cX7_above 55 = .ok (.iconst 0, 1) := by decide +kernel
theorem dX7_above_56 : decode cX7_above 56 = .ok (.istore 6, 2) := by decide +kernel
theorem dX7_above_58 : decode cX7_above 58 = .ok (.iload_n 2, 1) := by decide +kernel
theorem dX7_above_59 : decode cX7_above 59 = .ok (.iload 6, 2) := by decide +kernel
theorem dX7_above_61 : decode cX7_above 61 = .ok (.ifCond .eq 21, 3) := by decide +kernel
theorem dX7_above_64 : decode cX7_above 64 = .ok (.aload_n 0, 1) := by decide +kernel
theorem dX7_above_65 : decode cX7_above 65 = .ok (.iload 4, 2) := by decide +kernel
theorem dX7_above_67 : decode cX7_above 67 = .ok (.iload 5, 2) := by decide +kernel
theorem dX7_above_69 : decode cX7_above 69 = .ok (.invokevirtual 115, 3) := by decide +kernel
theorem dX7_above_72 : decode cX7_above 72 = .ok (.ifCond .eq 10, 3) := by decide +kernel
theorem dX7_above_75 : decode cX7_above 75 = .ok (.iconst 1, 1) := by decide +kernel
theorem dX7_above_76 : decode cX7_above 76 = .ok (.iload 4, 2) := by decide +kernel
theorem dX7_above_78 : decode cX7_above 78 = .ok (.ishl, 1) := by decide +kernel
theorem dX7_above_79 : decode cX7_above 79 = .ok (.goto 4, 3) := by decide +kernel
theorem dX7_above_82 : decode cX7_above 82 = .ok (.iconst 0, 1) := by decide +kernel
theorem dX7_above_83 : decode cX7_above 83 = .ok (.ior, 1) := by decide +kernel
theorem dX7_above_84 : decode cX7_above 84 = .ok (.istore_n 2, 1) := by decide +kernel
theorem dX7_above_85 : decode cX7_above 85 = .ok (.iinc 5 1, 3) := by decide +kernel
theorem dX7_above_88 : decode cX7_above 88 = .ok (.goto (-62), 3) := by decide +kernel
theorem dX7_above_91 : decode cX7_above 91 = .ok (.iinc 4 1, 3) := by decide +kernel
theorem dX7_above_94 : decode cX7_above 94 = .ok (.goto (-80), 3) := by decide +kernel
theorem dX7_above_97 : decode cX7_above 97 = .ok (.goto (-93), 3) := by decide +kernel
theorem dX7_above_100 : decode cX7_above 100 = .ok (.iload_n 2, 1) := by decide +kernel
theorem dX7_above_101 : decode cX7_above 101 = .ok (.ireturn, 1) := by decide +kernel
theorem dX7_lift_0 : decode cX7_lift 0 = .ok (.iconst 0, 1) := by decide +kernel
theorem dX7_lift_1 : decode cX7_lift 1 = .ok (.istore_n 2, 1) := by decide +kernel
theorem dX7_lift_2 : decode cX7_lift 2 = .ok (.aload_n 0, 1) := by decide +kernel
theorem dX7_lift_3 : decode cX7_lift 3 = .ok (.iload_n 1, 1) := by decide +kernel
theorem dX7_lift_4 : decode cX7_lift 4 = .ok (.invokevirtual 118, 3) := by decide +kernel
theorem dX7_lift_7 : decode cX7_lift 7 = .ok (.istore_n 3, 1) := by decide +kernel
theorem dX7_lift_8 : decode cX7_lift 8 = .ok (.iload_n 3, 1) := by decide +kernel
theorem dX7_lift_9 : decode cX7_lift 9 = .ok (.ifCond .eq 15, 3) := by decide +kernel
theorem dX7_lift_12 : decode cX7_lift 12 = .ok (.iinc 2 1, 3) := by decide +kernel
theorem dX7_lift_15 : decode cX7_lift 15 = .ok (.iload_n 3, 1) := by decide +kernel
theorem dX7_lift_16 : decode cX7_lift 16 = .ok (.iload_n 3, 1) := by decide +kernel
theorem dX7_lift_17 : decode cX7_lift 17 = .ok (.iconst 1, 1) := by decide +kernel
theorem dX7_lift_18 : decode cX7_lift 18 = .ok (.isub, 1) := by decide +kernel
theorem dX7_lift_19 : decode cX7_lift 19 = .ok (.iand, 1) := by decide +kernel
theorem dX7_lift_20 : decode cX7_lift 20 = .ok (.istore_n 3, 1) := by decide +kernel
theorem dX7_lift_21 : decode cX7_lift 21 = .ok (.goto (-13), 3) := by decide +kernel
theorem dX7_lift_24 : decode cX7_lift 24 = .ok (.iload_n 2, 1) := by decide +kernel
theorem dX7_lift_25 : decode cX7_lift 25 = .ok (.ireturn, 1) := by decide +kernel
theorem dX7_fault_0 : decode cX7_fault 0 = .ok (.aload_n 0, 1) := by decide +kernel
theorem dX7_fault_1 : decode cX7_fault 1 = .ok (.iload_n 1, 1) := by decide +kernel
theorem dX7_fault_2 : decode cX7_fault 2 = .ok (.invokevirtual 118, 3) := by decide +kernel
theorem dX7_fault_5 : decode cX7_fault 5 = .ok (.istore_n 2, 1) := by decide +kernel
theorem dX7_fault_6 : decode cX7_fault 6 = .ok (.iconst 0, 1) := by decide +kernel
theorem dX7_fault_7 : decode cX7_fault 7 = .ok (.istore_n 3, 1) := by decide +kernel
theorem dX7_fault_8 : decode cX7_fault 8 = .ok (.iconst 0, 1) := by decide +kernel
theorem dX7_fault_9 : decode cX7_fault 9 = .ok (.istore 4, 2) := by decide +kernel
theorem dX7_fault_11 : decode cX7_fault 11 = .ok (.iload 4, 2) := by decide +kernel
theorem dX7_fault_13 : decode cX7_fault 13 = .ok (.aload_n 0, 1) := by decide +kernel
theorem dX7_fault_14 : decode cX7_fault 14 = .ok (.invokevirtual 39, 3) := by decide +kernel
theorem dX7_fault_17 : decode cX7_fault 17 = .ok (.if_icmp .ge 43, 3) := by decide +kernel
theorem dX7_fault_20 : decode cX7_fault 20 = .ok (.iload_n 3, 1) := by decide +kernel
theorem dX7_fault_21 : decode cX7_fault 21 = .ok (.iload_n 2, 1) := by decide +kernel
theorem dX7_fault_22 : decode cX7_fault 22 = .ok (.iload 4, 2) := by decide +kernel
theorem dX7_fault_24 : decode cX7_fault 24 = .ok (.ishr, 1) := by decide +kernel
theorem dX7_fault_25 : decode cX7_fault 25 = .ok (.iconst 1, 1) := by decide +kernel
theorem dX7_fault_26 : decode cX7_fault 26 = .ok (.iand, 1) := by decide +kernel
theorem dX7_fault_27 : decode cX7_fault 27 = .ok (.iconst 1, 1) := by decide +kernel
theorem dX7_fault_28 : decode cX7_fault 28 = .ok (.if_icmp .ne 23, 3) := by decide +kernel
theorem dX7_fault_31 : decode cX7_fault 31 = .ok (.aload_n 0, 1) := by decide +kernel
theorem dX7_fault_32 : decode cX7_fault 32 = .ok (.iload 4, 2) := by decide +kernel
theorem dX7_fault_34 : decode cX7_fault 34 = .ok (.iconst 3, 1) := by decide +kernel
theorem dX7_fault_35 : decode cX7_fault 35 = .ok (.invokevirtual 47, 3) := by decide +kernel
theorem dX7_fault_38 : decode cX7_fault 38 = .ok (.aload_n 0, 1) := by decide +kernel
theorem dX7_fault_39 : decode cX7_fault 39 = .ok (.iload_n 1, 1) := by decide +kernel
theorem dX7_fault_40 : decode cX7_fault 40 = .ok (.iconst 3, 1) := by decide +kernel
theorem dX7_fault_41 : decode cX7_fault 41 = .ok (.invokevirtual 47, 3) := by decide +kernel
theorem dX7_fault_44 : decode cX7_fault 44 = .ok (.if_icmp .le 7, 3) := by decide +kernel
theorem dX7_fault_47 : decode cX7_fault 47 = .ok (.iconst 1, 1) := by decide +kernel
theorem dX7_fault_48 : decode cX7_fault 48 = .ok (.goto 4, 3) := by decide +kernel
theorem dX7_fault_51 : decode cX7_fault 51 = .ok (.iconst 0, 1) := by decide +kernel
theorem dX7_fault_52 : decode cX7_fault 52 = .ok (.iadd, 1) := by decide +kernel
theorem dX7_fault_53 : decode cX7_fault 53 = .ok (.istore_n 3, 1) := by decide +kernel
theorem dX7_fault_54 : decode cX7_fault 54 = .ok (.iinc 4 1, 3) := by decide +kernel
theorem dX7_fault_57 : decode cX7_fault 57 = .ok (.goto (-46), 3) := by decide +kernel
theorem dX7_fault_60 : decode cX7_fault 60 = .ok (.iload_n 3, 1) := by decide +kernel
theorem dX7_fault_61 : decode cX7_fault 61 = .ok (.ireturn, 1) := by decide +kernel
theorem dX7_rests_0 : decode cX7_rests 0 = .ok (.iconst 0, 1) := by decide +kernel
theorem dX7_rests_1 : decode cX7_rests 1 = .ok (.istore_n 2, 1) := by decide +kernel
theorem dX7_rests_2 : decode cX7_rests 2 = .ok (.iconst 0, 1) := by decide +kernel
theorem dX7_rests_3 : decode cX7_rests 3 = .ok (.istore_n 3, 1) := by decide +kernel
theorem dX7_rests_4 : decode cX7_rests 4 = .ok (.iload_n 3, 1) := by decide +kernel
theorem dX7_rests_5 : decode cX7_rests 5 = .ok (.bipush 100, 2) := by decide +kernel
theorem dX7_rests_7 : decode cX7_rests 7 = .ok (.if_icmp .ge 133, 3) := by decide +kernel
theorem dX7_rests_10 : decode cX7_rests 10 = .ok (.aload_n 0, 1) := by decide +kernel
theorem dX7_rests_11 : decode cX7_rests 11 = .ok (.iload_n 1, 1) := by decide +kernel
theorem dX7_rests_12 : decode cX7_rests 12 = .ok (.bipush 9, 2) := by decide +kernel
theorem dX7_rests_14 : decode cX7_rests 14 = .ok (.invokevirtual 47, 3) := by decide +kernel
theorem dX7_rests_17 : decode cX7_rests 17 = .ok (.ifCond .ne 7, 3) := by decide +kernel
theorem dX7_rests_20 : decode cX7_rests 20 = .ok (.iconst 1, 1) := by decide +kernel
theorem dX7_rests_21 : decode cX7_rests 21 = .ok (.goto 4, 3) := by decide +kernel
theorem dX7_rests_24 : decode cX7_rests 24 = .ok (.iconst 0, 1) := by decide +kernel
theorem dX7_rests_25 : decode cX7_rests 25 = .ok (.istore 4, 2) := by decide +kernel
theorem dX7_rests_27 : decode cX7_rests 27 = .ok (.iconst 0, 1) := by decide +kernel
theorem dX7_rests_28 : decode cX7_rests 28 = .ok (.istore 5, 2) := by decide +kernel
theorem dX7_rests_30 : decode cX7_rests 30 = .ok (.iload 5, 2) := by decide +kernel
theorem dX7_rests_32 : decode cX7_rests 32 = .ok (.aload_n 0, 1) := by decide +kernel
theorem dX7_rests_33 : decode cX7_rests 33 = .ok (.invokevirtual 39, 3) := by decide +kernel
theorem dX7_rests_36 : decode cX7_rests 36 = .ok (.if_icmp .ge 69, 3) := by decide +kernel
theorem dX7_rests_39 : decode cX7_rests 39 = .ok (.iload 4, 2) := by decide +kernel
theorem dX7_rests_41 : decode cX7_rests 41 = .ok (.ifCond .ne 51, 3) := by decide +kernel
theorem dX7_rests_44 : decode cX7_rests 44 = .ok (.iload 5, 2) := by decide +kernel
theorem dX7_rests_46 : decode cX7_rests 46 = .ok (.iload_n 1, 1) := by decide +kernel
theorem dX7_rests_47 : decode cX7_rests 47 = .ok (.if_icmp .eq 49, 3) := by decide +kernel
theorem dX7_rests_50 : decode cX7_rests 50 = .ok (.aload_n 0, 1) := by decide +kernel
theorem dX7_rests_51 : decode cX7_rests 51 = .ok (.iload 5, 2) := by decide +kernel
theorem dX7_rests_53 : decode cX7_rests 53 = .ok (.invokevirtual 71, 3) := by decide +kernel
theorem dX7_rests_56 : decode cX7_rests 56 = .ok (.ifCond .eq 40, 3) := by decide +kernel
theorem dX7_rests_59 : decode cX7_rests 59 = .ok (.aload_n 0, 1) := by decide +kernel
theorem dX7_rests_60 : decode cX7_rests 60 = .ok (.iload 5, 2) := by decide +kernel
theorem dX7_rests_62 : decode cX7_rests 62 = .ok (.iload_n 3, 1) := by decide +kernel
theorem dX7_rests_63 : decode cX7_rests 63 = .ok (.bipush 10, 2) := by decide +kernel
theorem dX7_rests_65 : decode cX7_rests 65 = .ok (.idiv, 1) := by decide +kernel
theorem dX7_rests_66 : decode cX7_rests 66 = .ok (.iload_n 3, 1) := by decide +kernel
theorem dX7_rests_67 : decode cX7_rests 67 = .ok (.bipush 10, 2) := by decide +kernel
theorem dX7_rests_69 : decode cX7_rests 69 = .ok (.irem, 1) := by decide +kernel
theorem dX7_rests_70 : decode cX7_rests 70 = .ok (.invokevirtual 75, 3) := by decide +kernel
theorem dX7_rests_73 : decode cX7_rests 73 = .ok (.ifCond .eq 23, 3) := by decide +kernel
theorem dX7_rests_76 : decode cX7_rests 76 = .ok (.aload_n 0, 1) := by decide +kernel
theorem dX7_rests_77 : decode cX7_rests 77 = .ok (.iload 5, 2) := by decide +kernel
theorem dX7_rests_79 : decode cX7_rests 79 = .ok (.invokevirtual 78, 3) := by decide +kernel
theorem dX7_rests_82 : decode cX7_rests 82 = .ok (.aload_n 0, 1) := by decide +kernel
theorem dX7_rests_83 : decode cX7_rests 83 = .ok (.iload_n 1, 1) := by decide +kernel
theorem dX7_rests_84 : decode cX7_rests 84 = .ok (.bipush 9, 2) := by decide +kernel
theorem dX7_rests_86 : decode cX7_rests 86 = .ok (.invokevirtual 47, 3) := by decide +kernel
theorem dX7_rests_89 : decode cX7_rests 89 = .ok (.if_icmp .ne 7, 3) := by decide +kernel
theorem dX7_rests_92 : decode cX7_rests 92 = .ok (.iconst 1, 1) := by decide +kernel
theorem dX7_rests_93 : decode cX7_rests 93 = .ok (.goto 4, 3) := by decide +kernel
theorem dX7_rests_96 : decode cX7_rests 96 = .ok (.iconst 0, 1) := by decide +kernel
theorem dX7_rests_97 : decode cX7_rests 97 = .ok (.istore 4, 2) := by decide +kernel
theorem dX7_rests_99 : decode cX7_rests 99 = .ok (.iinc 5 1, 3) := by decide +kernel
theorem dX7_rests_102 : decode cX7_rests 102 = .ok (.goto (-72), 3) := by decide +kernel
theorem dX7_rests_105 : decode cX7_rests 105 = .ok (.iload_n 2, 1) := by decide +kernel
theorem dX7_rests_106 : decode cX7_rests 106 = .ok (.iload 4, 2) := by decide +kernel
theorem dX7_rests_108 : decode cX7_rests 108 = .ok (.ifCond .eq 23, 3) := by decide +kernel
theorem dX7_rests_111 : decode cX7_rests 111 = .ok (.aload_n 0, 1) := by decide +kernel
theorem dX7_rests_112 : decode cX7_rests 112 = .ok (.iload_n 1, 1) := by decide +kernel
theorem dX7_rests_113 : decode cX7_rests 113 = .ok (.iload_n 3, 1) := by decide +kernel
theorem dX7_rests_114 : decode cX7_rests 114 = .ok (.bipush 10, 2) := by decide +kernel
theorem dX7_rests_116 : decode cX7_rests 116 = .ok (.idiv, 1) := by decide +kernel
theorem dX7_rests_117 : decode cX7_rests 117 = .ok (.iload_n 3, 1) := by decide +kernel
theorem dX7_rests_118 : decode cX7_rests 118 = .ok (.bipush 10, 2) := by decide +kernel
theorem dX7_rests_120 : decode cX7_rests 120 = .ok (.irem, 1) := by decide +kernel
theorem dX7_rests_121 : decode cX7_rests 121 = .ok (.invokevirtual 75, 3) := by decide +kernel
theorem dX7_rests_124 : decode cX7_rests 124 = .ok (.ifCond .eq 7, 3) := by decide +kernel
theorem dX7_rests_127 : decode cX7_rests 127 = .ok (.iconst 1, 1) := by decide +kernel
theorem dX7_rests_128 : decode cX7_rests 128 = .ok (.goto 4, 3) := by decide +kernel
theorem dX7_rests_131 : decode cX7_rests 131 = .ok (.iconst 0, 1) := by decide +kernel
theorem dX7_rests_132 : decode cX7_rests 132 = .ok (.iadd, 1) := by decide +kernel
theorem dX7_rests_133 : decode cX7_rests 133 = .ok (.istore_n 2, 1) := by decide +kernel
theorem dX7_rests_134 : decode cX7_rests 134 = .ok (.iinc 3 1, 3) := by decide +kernel
theorem dX7_rests_137 : decode cX7_rests 137 = .ok (.goto (-133), 3) := by decide +kernel
theorem dX7_rests_140 : decode cX7_rests 140 = .ok (.iload_n 2, 1) := by decide +kernel
theorem dX7_rests_141 : decode cX7_rests 141 = .ok (.ireturn, 1) := by decide +kernel
theorem dX7_faults_0 : decode cX7_faults 0 = .ok (.iconst 0, 1) := by decide +kernel
theorem dX7_faults_1 : decode cX7_faults 1 = .ok (.istore_n 1, 1) := by decide +kernel
theorem dX7_faults_2 : decode cX7_faults 2 = .ok (.iconst 0, 1) := by decide +kernel
theorem dX7_faults_3 : decode cX7_faults 3 = .ok (.istore_n 2, 1) := by decide +kernel
theorem dX7_faults_4 : decode cX7_faults 4 = .ok (.iload_n 2, 1) := by decide +kernel
theorem dX7_faults_5 : decode cX7_faults 5 = .ok (.aload_n 0, 1) := by decide +kernel
theorem dX7_faults_6 : decode cX7_faults 6 = .ok (.invokevirtual 39, 3) := by decide +kernel
theorem dX7_faults_9 : decode cX7_faults 9 = .ok (.if_icmp .ge 29, 3) := by decide +kernel
theorem dX7_faults_12 : decode cX7_faults 12 = .ok (.iload_n 1, 1) := by decide +kernel
theorem dX7_faults_13 : decode cX7_faults 13 = .ok (.aload_n 0, 1) := by decide +kernel
theorem dX7_faults_14 : decode cX7_faults 14 = .ok (.iload_n 2, 1) := by decide +kernel
theorem dX7_faults_15 : decode cX7_faults 15 = .ok (.invokevirtual 71, 3) := by decide +kernel
theorem dX7_faults_18 : decode cX7_faults 18 = .ok (.ifCond .eq 11, 3) := by decide +kernel
theorem dX7_faults_21 : decode cX7_faults 21 = .ok (.aload_n 0, 1) := by decide +kernel
theorem dX7_faults_22 : decode cX7_faults 22 = .ok (.iload_n 2, 1) := by decide +kernel
theorem dX7_faults_23 : decode cX7_faults 23 = .ok (.invokevirtual 121, 3) := by decide +kernel
theorem dX7_faults_26 : decode cX7_faults 26 = .ok (.goto 4, 3) := by decide +kernel
theorem dX7_faults_29 : decode cX7_faults 29 = .ok (.iconst 0, 1) := by decide +kernel
theorem dX7_faults_30 : decode cX7_faults 30 = .ok (.iadd, 1) := by decide +kernel
theorem dX7_faults_31 : decode cX7_faults 31 = .ok (.istore_n 1, 1) := by decide +kernel
theorem dX7_faults_32 : decode cX7_faults 32 = .ok (.iinc 2 1, 3) := by decide +kernel
theorem dX7_faults_35 : decode cX7_faults 35 = .ok (.goto (-31), 3) := by decide +kernel
theorem dX7_faults_38 : decode cX7_faults 38 = .ok (.iload_n 1, 1) := by decide +kernel
theorem dX7_faults_39 : decode cX7_faults 39 = .ok (.ireturn, 1) := by decide +kernel
theorem dX7_lifts_0 : decode cX7_lifts 0 = .ok (.iconst 0, 1) := by decide +kernel
theorem dX7_lifts_1 : decode cX7_lifts 1 = .ok (.istore_n 1, 1) := by decide +kernel
theorem dX7_lifts_2 : decode cX7_lifts 2 = .ok (.iconst 0, 1) := by decide +kernel
theorem dX7_lifts_3 : decode cX7_lifts 3 = .ok (.istore_n 2, 1) := by decide +kernel
theorem dX7_lifts_4 : decode cX7_lifts 4 = .ok (.iload_n 2, 1) := by decide +kernel
theorem dX7_lifts_5 : decode cX7_lifts 5 = .ok (.aload_n 0, 1) := by decide +kernel
theorem dX7_lifts_6 : decode cX7_lifts 6 = .ok (.invokevirtual 39, 3) := by decide +kernel
theorem dX7_lifts_9 : decode cX7_lifts 9 = .ok (.if_icmp .ge 29, 3) := by decide +kernel
theorem dX7_lifts_12 : decode cX7_lifts 12 = .ok (.iload_n 1, 1) := by decide +kernel
theorem dX7_lifts_13 : decode cX7_lifts 13 = .ok (.aload_n 0, 1) := by decide +kernel
theorem dX7_lifts_14 : decode cX7_lifts 14 = .ok (.iload_n 2, 1) := by decide +kernel
theorem dX7_lifts_15 : decode cX7_lifts 15 = .ok (.invokevirtual 71, 3) := by decide +kernel
theorem dX7_lifts_18 : decode cX7_lifts 18 = .ok (.ifCond .eq 11, 3) := by decide +kernel
theorem dX7_lifts_21 : decode cX7_lifts 21 = .ok (.aload_n 0, 1) := by decide +kernel
theorem dX7_lifts_22 : decode cX7_lifts 22 = .ok (.iload_n 2, 1) := by decide +kernel
theorem dX7_lifts_23 : decode cX7_lifts 23 = .ok (.invokevirtual 124, 3) := by decide +kernel
theorem dX7_lifts_26 : decode cX7_lifts 26 = .ok (.goto 4, 3) := by decide +kernel
theorem dX7_lifts_29 : decode cX7_lifts 29 = .ok (.iconst 0, 1) := by decide +kernel
theorem dX7_lifts_30 : decode cX7_lifts 30 = .ok (.iadd, 1) := by decide +kernel
theorem dX7_lifts_31 : decode cX7_lifts 31 = .ok (.istore_n 1, 1) := by decide +kernel
theorem dX7_lifts_32 : decode cX7_lifts 32 = .ok (.iinc 2 1, 3) := by decide +kernel
theorem dX7_lifts_35 : decode cX7_lifts 35 = .ok (.goto (-31), 3) := by decide +kernel
theorem dX7_lifts_38 : decode cX7_lifts 38 = .ok (.iload_n 1, 1) := by decide +kernel
theorem dX7_lifts_39 : decode cX7_lifts 39 = .ok (.ireturn, 1) := by decide +kernel
theorem dX7_frees_0 : decode cX7_frees 0 = .ok (.iconst 0, 1) := by decide +kernel
theorem dX7_frees_1 : decode cX7_frees 1 = .ok (.istore_n 1, 1) := by decide +kernel
theorem dX7_frees_2 : decode cX7_frees 2 = .ok (.iconst 0, 1) := by decide +kernel
theorem dX7_frees_3 : decode cX7_frees 3 = .ok (.istore_n 2, 1) := by decide +kernel
theorem dX7_frees_4 : decode cX7_frees 4 = .ok (.iload_n 2, 1) := by decide +kernel
theorem dX7_frees_5 : decode cX7_frees 5 = .ok (.aload_n 0, 1) := by decide +kernel
theorem dX7_frees_6 : decode cX7_frees 6 = .ok (.invokevirtual 39, 3) := by decide +kernel
theorem dX7_frees_9 : decode cX7_frees 9 = .ok (.if_icmp .ge 33, 3) := by decide +kernel
theorem dX7_frees_12 : decode cX7_frees 12 = .ok (.iload_n 1, 1) := by decide +kernel
theorem dX7_frees_13 : decode cX7_frees 13 = .ok (.aload_n 0, 1) := by decide +kernel
theorem dX7_frees_14 : decode cX7_frees 14 = .ok (.iload_n 2, 1) := by decide +kernel
theorem dX7_frees_15 : decode cX7_frees 15 = .ok (.invokevirtual 71, 3) := by decide +kernel
theorem dX7_frees_18 : decode cX7_frees 18 = .ok (.ifCond .eq 15, 3) := by decide +kernel
theorem dX7_frees_21 : decode cX7_frees 21 = .ok (.aload_n 0, 1) := by decide +kernel
theorem dX7_frees_22 : decode cX7_frees 22 = .ok (.iload_n 2, 1) := by decide +kernel
theorem dX7_frees_23 : decode cX7_frees 23 = .ok (.invokevirtual 118, 3) := by decide +kernel
theorem dX7_frees_26 : decode cX7_frees 26 = .ok (.ifCond .ne 7, 3) := by decide +kernel
theorem dX7_frees_29 : decode cX7_frees 29 = .ok (.iconst 1, 1) := by decide +kernel
theorem dX7_frees_30 : decode cX7_frees 30 = .ok (.goto 4, 3) := by decide +kernel
theorem dX7_frees_33 : decode cX7_frees 33 = .ok (.iconst 0, 1) := by decide +kernel
theorem dX7_frees_34 : decode cX7_frees 34 = .ok (.iadd, 1) := by decide +kernel
theorem dX7_frees_35 : decode cX7_frees 35 = .ok (.istore_n 1, 1) := by decide +kernel
theorem dX7_frees_36 : decode cX7_frees 36 = .ok (.iinc 2 1, 3) := by decide +kernel
theorem dX7_frees_39 : decode cX7_frees 39 = .ok (.goto (-35), 3) := by decide +kernel
theorem dX7_frees_42 : decode cX7_frees 42 = .ok (.iload_n 1, 1) := by decide +kernel
theorem dX7_frees_43 : decode cX7_frees 43 = .ok (.ireturn, 1) := by decide +kernel
theorem dX7_boxHeight_0 : decode cX7_boxHeight 0 = .ok (.iconst 0, 1) := by decide +kernel
theorem dX7_boxHeight_1 : decode cX7_boxHeight 1 = .ok (.istore_n 1, 1) := by decide +kernel
theorem dX7_boxHeight_2 : decode cX7_boxHeight 2 = .ok (.iconst 0, 1) := by decide +kernel
theorem dX7_boxHeight_3 : decode cX7_boxHeight 3 = .ok (.istore_n 2, 1) := by decide +kernel
theorem dX7_boxHeight_4 : decode cX7_boxHeight 4 = .ok (.iload_n 2, 1) := by decide +kernel
theorem dX7_boxHeight_5 : decode cX7_boxHeight 5 = .ok (.aload_n 0, 1) := by decide +kernel
theorem dX7_boxHeight_6 : decode cX7_boxHeight 6 = .ok (.invokevirtual 39, 3) := by decide +kernel
theorem dX7_boxHeight_9 : decode cX7_boxHeight 9 = .ok (.if_icmp .ge 36, 3) := by decide +kernel
theorem dX7_boxHeight_12 : decode cX7_boxHeight 12 = .ok (.aload_n 0, 1) := by decide +kernel
theorem dX7_boxHeight_13 : decode cX7_boxHeight 13 = .ok (.iload_n 2, 1) := by decide +kernel
theorem dX7_boxHeight_14 : decode cX7_boxHeight 14 = .ok (.invokevirtual 71, 3) := by decide +kernel
theorem dX7_boxHeight_17 : decode cX7_boxHeight 17 = .ok (.ifCond .eq 20, 3) := by decide +kernel
theorem dX7_boxHeight_20 : decode cX7_boxHeight 20 = .ok (.aload_n 0, 1) := by decide +kernel
theorem dX7_boxHeight_21 : decode cX7_boxHeight 21 = .ok (.iload_n 2, 1) := by decide +kernel
theorem dX7_boxHeight_22 : decode cX7_boxHeight 22 = .ok (.invokevirtual 78, 3) := by decide +kernel
theorem dX7_boxHeight_25 : decode cX7_boxHeight 25 = .ok (.iload_n 1, 1) := by decide +kernel
theorem dX7_boxHeight_26 : decode cX7_boxHeight 26 = .ok (.if_icmp .le 11, 3) := by decide +kernel
theorem dX7_boxHeight_29 : decode cX7_boxHeight 29 = .ok (.aload_n 0, 1) := by decide +kernel
theorem dX7_boxHeight_30 : decode cX7_boxHeight 30 = .ok (.iload_n 2, 1) := by decide +kernel
theorem dX7_boxHeight_31 : decode cX7_boxHeight 31 = .ok (.invokevirtual 78, 3) := by decide +kernel
theorem dX7_boxHeight_34 : decode cX7_boxHeight 34 = .ok (.goto 4, 3) := by decide +kernel
theorem dX7_boxHeight_37 : decode cX7_boxHeight 37 = .ok (.iload_n 1, 1) := by decide +kernel
theorem dX7_boxHeight_38 : decode cX7_boxHeight 38 = .ok (.istore_n 1, 1) := by decide +kernel
theorem dX7_boxHeight_39 : decode cX7_boxHeight 39 = .ok (.iinc 2 1, 3) := by decide +kernel
theorem dX7_boxHeight_42 : decode cX7_boxHeight 42 = .ok (.goto (-38), 3) := by decide +kernel
theorem dX7_boxHeight_45 : decode cX7_boxHeight 45 = .ok (.iload_n 1, 1) := by decide +kernel
theorem dX7_boxHeight_46 : decode cX7_boxHeight 46 = .ok (.ireturn, 1) := by decide +kernel
theorem dX7_air_0 : decode cX7_air 0 = .ok (.aload_n 0, 1) := by decide +kernel
theorem dX7_air_1 : decode cX7_air 1 = .ok (.getfield 7, 3) := by decide +kernel
theorem dX7_air_4 : decode cX7_air 4 = .ok (.iconst 0, 1) := by decide +kernel
theorem dX7_air_5 : decode cX7_air 5 = .ok (.iaload, 1) := by decide +kernel
theorem dX7_air_6 : decode cX7_air 6 = .ok (.aload_n 0, 1) := by decide +kernel
theorem dX7_air_7 : decode cX7_air 7 = .ok (.getfield 7, 3) := by decide +kernel
theorem dX7_air_10 : decode cX7_air 10 = .ok (.iconst 1, 1) := by decide +kernel
theorem dX7_air_11 : decode cX7_air 11 = .ok (.iaload, 1) := by decide +kernel
theorem dX7_air_12 : decode cX7_air 12 = .ok (.imul, 1) := by decide +kernel
theorem dX7_air_13 : decode cX7_air 13 = .ok (.aload_n 0, 1) := by decide +kernel
theorem dX7_air_14 : decode cX7_air 14 = .ok (.invokevirtual 127, 3) := by decide +kernel
theorem dX7_air_17 : decode cX7_air 17 = .ok (.imul, 1) := by decide +kernel
theorem dX7_air_18 : decode cX7_air 18 = .ok (.istore_n 1, 1) := by decide +kernel
theorem dX7_air_19 : decode cX7_air 19 = .ok (.iconst 0, 1) := by decide +kernel
theorem dX7_air_20 : decode cX7_air 20 = .ok (.istore_n 2, 1) := by decide +kernel
theorem dX7_air_21 : decode cX7_air 21 = .ok (.iload_n 2, 1) := by decide +kernel
theorem dX7_air_22 : decode cX7_air 22 = .ok (.aload_n 0, 1) := by decide +kernel
theorem dX7_air_23 : decode cX7_air 23 = .ok (.invokevirtual 39, 3) := by decide +kernel
theorem dX7_air_26 : decode cX7_air 26 = .ok (.if_icmp .ge 43, 3) := by decide +kernel
theorem dX7_air_29 : decode cX7_air 29 = .ok (.iload_n 1, 1) := by decide +kernel
theorem dX7_air_30 : decode cX7_air 30 = .ok (.aload_n 0, 1) := by decide +kernel
theorem dX7_air_31 : decode cX7_air 31 = .ok (.iload_n 2, 1) := by decide +kernel
theorem dX7_air_32 : decode cX7_air 32 = .ok (.invokevirtual 71, 3) := by decide +kernel
theorem dX7_air_35 : decode cX7_air 35 = .ok (.ifCond .eq 25, 3) := by decide +kernel
theorem dX7_air_38 : decode cX7_air 38 = .ok (.aload_n 0, 1) := by decide +kernel
theorem dX7_air_39 : decode cX7_air 39 = .ok (.iload_n 2, 1) := by decide +kernel
theorem dX7_air_40 : decode cX7_air 40 = .ok (.iconst 0, 1) := by decide +kernel
theorem dX7_air_41 : decode cX7_air 41 = .ok (.invokevirtual 47, 3) := by decide +kernel
theorem dX7_air_44 : decode cX7_air 44 = .ok (.aload_n 0, 1) := by decide +kernel
theorem dX7_air_45 : decode cX7_air 45 = .ok (.iload_n 2, 1) := by decide +kernel
theorem dX7_air_46 : decode cX7_air 46 = .ok (.iconst 1, 1) := by decide +kernel
theorem dX7_air_47 : decode cX7_air 47 = .ok (.invokevirtual 47, 3) := by decide +kernel
theorem dX7_air_50 : decode cX7_air 50 = .ok (.imul, 1) := by decide +kernel
theorem dX7_air_51 : decode cX7_air 51 = .ok (.aload_n 0, 1) := by decide +kernel
theorem dX7_air_52 : decode cX7_air 52 = .ok (.iload_n 2, 1) := by decide +kernel
theorem dX7_air_53 : decode cX7_air 53 = .ok (.invokevirtual 51, 3) := by decide +kernel
theorem dX7_air_56 : decode cX7_air 56 = .ok (.imul, 1) := by decide +kernel
theorem dX7_air_57 : decode cX7_air 57 = .ok (.goto 4, 3) := by decide +kernel
theorem dX7_air_60 : decode cX7_air 60 = .ok (.iconst 0, 1) := by decide +kernel
theorem dX7_air_61 : decode cX7_air 61 = .ok (.isub, 1) := by decide +kernel
theorem dX7_air_62 : decode cX7_air 62 = .ok (.istore_n 1, 1) := by decide +kernel
theorem dX7_air_63 : decode cX7_air 63 = .ok (.iinc 2 1, 3) := by decide +kernel
theorem dX7_air_66 : decode cX7_air 66 = .ok (.goto (-45), 3) := by decide +kernel
theorem dX7_air_69 : decode cX7_air 69 = .ok (.iload_n 1, 1) := by decide +kernel
theorem dX7_air_70 : decode cX7_air 70 = .ok (.ireturn, 1) := by decide +kernel
theorem dX7_type_0 : decode cX7_type 0 = .ok (.iload_n 1, 1) := by decide +kernel
theorem dX7_type_1 : decode cX7_type 1 = .ok (.bipush 32, 2) := by decide +kernel
theorem dX7_type_3 : decode cX7_type 3 = .ok (.bipush 126, 2) := by decide +kernel
theorem dX7_type_5 : decode cX7_type 5 = .ok (.invokestatic 43, 3) := by decide +kernel
theorem dX7_type_8 : decode cX7_type 8 = .ok (.ifCond .ne 5, 3) := by decide +kernel
theorem dX7_type_11 : decode cX7_type 11 = .ok (.iconst (-1), 1) := by decide +kernel
theorem dX7_type_12 : decode cX7_type 12 = .ok (.ireturn, 1) := by decide +kernel
theorem dX7_type_13 : decode cX7_type 13 = .ok (.aload_n 0, 1) := by decide +kernel
theorem dX7_type_14 : decode cX7_type 14 = .ok (.getfield 130, 3) := by decide +kernel
theorem dX7_type_17 : decode cX7_type 17 = .ok (.bipush 100, 2) := by decide +kernel
theorem dX7_type_19 : decode cX7_type 19 = .ok (.if_icmp .ne 6, 3) := by decide +kernel
theorem dX7_type_22 : decode cX7_type 22 = .ok (.bipush (-3), 2) := by decide +kernel
theorem dX7_type_24 : decode cX7_type 24 = .ok (.ireturn, 1) := by decide +kernel
theorem dX7_type_25 : decode cX7_type 25 = .ok (.aload_n 0, 1) := by decide +kernel
theorem dX7_type_26 : decode cX7_type 26 = .ok (.getfield 16, 3) := by decide +kernel
theorem dX7_type_29 : decode cX7_type 29 = .ok (.aload_n 0, 1) := by decide +kernel
theorem dX7_type_30 : decode cX7_type 30 = .ok (.getfield 130, 3) := by decide +kernel
theorem dX7_type_33 : decode cX7_type 33 = .ok (.iload_n 1, 1) := by decide +kernel
theorem dX7_type_34 : decode cX7_type 34 = .ok (.iastore, 1) := by decide +kernel
theorem dX7_type_35 : decode cX7_type 35 = .ok (.aload_n 0, 1) := by decide +kernel
theorem dX7_type_36 : decode cX7_type 36 = .ok (.dup, 1) := by decide +kernel
theorem dX7_type_37 : decode cX7_type 37 = .ok (.getfield 130, 3) := by decide +kernel
theorem dX7_type_40 : decode cX7_type 40 = .ok (.iconst 1, 1) := by decide +kernel
theorem dX7_type_41 : decode cX7_type 41 = .ok (.iadd, 1) := by decide +kernel
theorem dX7_type_42 : decode cX7_type 42 = .ok (.putfield 130, 3) := by decide +kernel
theorem dX7_type_45 : decode cX7_type 45 = .ok (.aload_n 0, 1) := by decide +kernel
theorem dX7_type_46 : decode cX7_type 46 = .ok (.getfield 130, 3) := by decide +kernel
theorem dX7_type_49 : decode cX7_type 49 = .ok (.ireturn, 1) := by decide +kernel
theorem dX7_clearText_0 : decode cX7_clearText 0 = .ok (.aload_n 0, 1) := by decide +kernel
theorem dX7_clearText_1 : decode cX7_clearText 1 = .ok (.getfield 130, 3) := by decide +kernel
theorem dX7_clearText_4 : decode cX7_clearText 4 = .ok (.istore_n 1, 1) := by decide +kernel
theorem dX7_clearText_5 : decode cX7_clearText 5 = .ok (.aload_n 0, 1) := by decide +kernel
theorem dX7_clearText_6 : decode cX7_clearText 6 = .ok (.iconst 0, 1) := by decide +kernel
theorem dX7_clearText_7 : decode cX7_clearText 7 = .ok (.putfield 130, 3) := by decide +kernel
theorem dX7_clearText_10 : decode cX7_clearText 10 = .ok (.iload_n 1, 1) := by decide +kernel
theorem dX7_clearText_11 : decode cX7_clearText 11 = .ok (.ireturn, 1) := by decide +kernel
theorem dX7_here_0 : decode cX7_here 0 = .ok (.aload_n 0, 1) := by decide +kernel
theorem dX7_here_1 : decode cX7_here 1 = .ok (.getfield 133, 3) := by decide +kernel
theorem dX7_here_4 : decode cX7_here 4 = .ok (.aload_n 0, 1) := by decide +kernel
theorem dX7_here_5 : decode cX7_here 5 = .ok (.getfield 130, 3) := by decide +kernel
theorem dX7_here_8 : decode cX7_here 8 = .ok (.if_icmp .ge 15, 3) := by decide +kernel
theorem dX7_here_11 : decode cX7_here 11 = .ok (.aload_n 0, 1) := by decide +kernel
theorem dX7_here_12 : decode cX7_here 12 = .ok (.getfield 16, 3) := by decide +kernel
theorem dX7_here_15 : decode cX7_here 15 = .ok (.aload_n 0, 1) := by decide +kernel
theorem dX7_here_16 : decode cX7_here 16 = .ok (.getfield 133, 3) := by decide +kernel
theorem dX7_here_19 : decode cX7_here 19 = .ok (.iaload, 1) := by decide +kernel
theorem dX7_here_20 : decode cX7_here 20 = .ok (.goto 5, 3) := by decide +kernel
theorem dX7_here_23 : decode cX7_here 23 = .ok (.bipush (-9), 2) := by decide +kernel
theorem dX7_here_25 : decode cX7_here 25 = .ok (.ireturn, 1) := by decide +kernel
theorem dX7_isDigit_0 : decode cX7_isDigit 0 = .ok (.aload_n 0, 1) := by decide +kernel
theorem dX7_isDigit_1 : decode cX7_isDigit 1 = .ok (.invokevirtual 136, 3) := by decide +kernel
theorem dX7_isDigit_4 : decode cX7_isDigit 4 = .ok (.bipush 48, 2) := by decide +kernel
theorem dX7_isDigit_6 : decode cX7_isDigit 6 = .ok (.bipush 57, 2) := by decide +kernel
theorem dX7_isDigit_8 : decode cX7_isDigit 8 = .ok (.invokestatic 43, 3) := by decide +kernel
theorem dX7_isDigit_11 : decode cX7_isDigit 11 = .ok (.ireturn, 1) := by decide +kernel
theorem dX7_fails_0 : decode cX7_fails 0 = .ok (.aload_n 0, 1) := by decide +kernel
theorem dX7_fails_1 : decode cX7_fails 1 = .ok (.iload_n 1, 1) := by decide +kernel
theorem dX7_fails_2 : decode cX7_fails 2 = .ok (.putfield 139, 3) := by decide +kernel
theorem dX7_fails_5 : decode cX7_fails 5 = .ok (.aload_n 0, 1) := by decide +kernel
theorem dX7_fails_6 : decode cX7_fails 6 = .ok (.iload_n 2, 1) := by decide +kernel
theorem dX7_fails_7 : decode cX7_fails 7 = .ok (.putfield 141, 3) := by decide +kernel
theorem dX7_fails_10 : decode cX7_fails 10 = .ok (.iconst 0, 1) := by decide +kernel
theorem dX7_fails_11 : decode cX7_fails 11 = .ok (.ireturn, 1) := by decide +kernel
theorem dX7_takes_0 : decode cX7_takes 0 = .ok (.aload_n 0, 1) := by decide +kernel
theorem dX7_takes_1 : decode cX7_takes 1 = .ok (.invokevirtual 136, 3) := by decide +kernel
theorem dX7_takes_4 : decode cX7_takes 4 = .ok (.iload_n 1, 1) := by decide +kernel
theorem dX7_takes_5 : decode cX7_takes 5 = .ok (.if_icmp .eq 13, 3) := by decide +kernel
theorem dX7_takes_8 : decode cX7_takes 8 = .ok (.aload_n 0, 1) := by decide +kernel
theorem dX7_takes_9 : decode cX7_takes 9 = .ok (.iconst 1, 1) := by decide +kernel
theorem dX7_takes_10 : decode cX7_takes 10 = .ok (.aload_n 0, 1) := by decide +kernel
theorem dX7_takes_11 : decode cX7_takes 11 = .ok (.getfield 133, 3) := by decide +kernel
theorem dX7_takes_14 : decode cX7_takes 14 = .ok (.invokevirtual 144, 3) := by decide +kernel
theorem dX7_takes_17 : decode cX7_takes 17 = .ok (.ireturn, 1) := by decide +kernel
theorem dX7_takes_18 : decode cX7_takes 18 = .ok (.aload_n 0, 1) := by decide +kernel
theorem dX7_takes_19 : decode cX7_takes 19 = .ok (.dup, 1) := by decide +kernel
theorem dX7_takes_20 : decode cX7_takes 20 = .ok (.getfield 133, 3) := by decide +kernel
theorem dX7_takes_23 : decode cX7_takes 23 = .ok (.iconst 1, 1) := by decide +kernel
theorem dX7_takes_24 : decode cX7_takes 24 = .ok (.iadd, 1) := by decide +kernel
theorem dX7_takes_25 : decode cX7_takes 25 = .ok (.putfield 133, 3) := by decide +kernel
theorem dX7_takes_28 : decode cX7_takes 28 = .ok (.iconst 1, 1) := by decide +kernel
theorem dX7_takes_29 : decode cX7_takes 29 = .ok (.ireturn, 1) := by decide +kernel
theorem dX7_readsNumber_0 : decode cX7_readsNumber 0 = .ok (.aload_n 0, 1) := by decide +kernel
theorem dX7_readsNumber_1 : decode cX7_readsNumber 1 = .ok (.getfield 133, 3) := by decide +kernel
theorem dX7_readsNumber_4 : decode cX7_readsNumber 4 = .ok (.istore 4, 2) := by decide +kernel
theorem dX7_readsNumber_6 : decode cX7_readsNumber 6 = .ok (.aload_n 0, 1) := by decide +kernel
theorem dX7_readsNumber_7 : decode cX7_readsNumber 7 = .ok (.iconst 0, 1) := by decide +kernel
theorem dX7_readsNumber_8 : decode cX7_readsNumber 8 = .ok (.putfield 147, 3) := by decide +kernel
theorem dX7_readsNumber_11 : decode cX7_readsNumber 11 = .ok (.aload_n 0, 1) := by decide +kernel
theorem dX7_readsNumber_12 : decode cX7_readsNumber 12 = .ok (.invokevirtual 150, 3) := by decide +kernel
theorem dX7_readsNumber_15 : decode cX7_readsNumber 15 = .ok (.ifCond .eq 46, 3) := by decide +kernel
theorem dX7_readsNumber_18 : decode cX7_readsNumber 18 = .ok (.aload_n 0, 1) := by decide +kernel
theorem dX7_readsNumber_19 : decode cX7_readsNumber 19 = .ok (.getfield 133, 3) := by decide +kernel
theorem dX7_readsNumber_22 : decode cX7_readsNumber 22 = .ok (.iload 4, 2) := by decide +kernel
theorem dX7_readsNumber_24 : decode cX7_readsNumber 24 = .ok (.iload_n 1, 1) := by decide +kernel
theorem dX7_readsNumber_25 : decode cX7_readsNumber 25 = .ok (.iadd, 1) := by decide +kernel
theorem dX7_readsNumber_26 : decode cX7_readsNumber 26 = .ok (.if_icmp .ge 35, 3) := by decide +kernel
theorem dX7_readsNumber_29 : decode cX7_readsNumber 29 = .ok (.aload_n 0, 1) := by decide +kernel
theorem dX7_readsNumber_30 : decode cX7_readsNumber 30 = .ok (.bipush 10, 2) := by decide +kernel
theorem dX7_readsNumber_32 : decode cX7_readsNumber 32 = .ok (.aload_n 0, 1) := by decide +kernel
theorem dX7_readsNumber_33 : decode cX7_readsNumber 33 = .ok (.getfield 147, 3) := by decide +kernel
theorem dX7_readsNumber_36 : decode cX7_readsNumber 36 = .ok (.imul, 1) := by decide +kernel
theorem dX7_readsNumber_37 : decode cX7_readsNumber 37 = .ok (.aload_n 0, 1) := by decide +kernel
theorem dX7_readsNumber_38 : decode cX7_readsNumber 38 = .ok (.invokevirtual 136, 3) := by decide +kernel
theorem dX7_readsNumber_41 : decode cX7_readsNumber 41 = .ok (.iadd, 1) := by decide +kernel
theorem dX7_readsNumber_42 : decode cX7_readsNumber 42 = .ok (.bipush 48, 2) := by decide +kernel
theorem dX7_readsNumber_44 : decode cX7_readsNumber 44 = .ok (.isub, 1) := by decide +kernel
theorem dX7_readsNumber_45 : decode cX7_readsNumber 45 = .ok (.putfield 147, 3) := by decide +kernel
theorem dX7_readsNumber_48 : decode cX7_readsNumber 48 = .ok (.aload_n 0, 1) := by decide +kernel
theorem dX7_readsNumber_49 : decode cX7_readsNumber 49 = .ok (.dup, 1) := by decide +kernel
theorem dX7_readsNumber_50 : decode cX7_readsNumber 50 = .ok (.getfield 133, 3) := by decide +kernel
theorem dX7_readsNumber_53 : decode cX7_readsNumber 53 = .ok (.iconst 1, 1) := by decide +kernel
theorem dX7_readsNumber_54 : decode cX7_readsNumber 54 = .ok (.iadd, 1) := by decide +kernel
theorem dX7_readsNumber_55 : decode cX7_readsNumber 55 = .ok (.putfield 133, 3) := by decide +kernel
theorem dX7_readsNumber_58 : decode cX7_readsNumber 58 = .ok (.goto (-47), 3) := by decide +kernel
theorem dX7_readsNumber_61 : decode cX7_readsNumber 61 = .ok (.aload_n 0, 1) := by decide +kernel
theorem dX7_readsNumber_62 : decode cX7_readsNumber 62 = .ok (.getfield 133, 3) := by decide +kernel
theorem dX7_readsNumber_65 : decode cX7_readsNumber 65 = .ok (.iload 4, 2) := by decide +kernel
theorem dX7_readsNumber_67 : decode cX7_readsNumber 67 = .ok (.if_icmp .eq 10, 3) := by decide +kernel
theorem dX7_readsNumber_70 : decode cX7_readsNumber 70 = .ok (.aload_n 0, 1) := by decide +kernel
theorem dX7_readsNumber_71 : decode cX7_readsNumber 71 = .ok (.invokevirtual 150, 3) := by decide +kernel
theorem dX7_readsNumber_74 : decode cX7_readsNumber 74 = .ok (.ifCond .eq 13, 3) := by decide +kernel
theorem dX7_readsNumber_77 : decode cX7_readsNumber 77 = .ok (.aload_n 0, 1) := by decide +kernel
theorem dX7_readsNumber_78 : decode cX7_readsNumber 78 = .ok (.iconst 1, 1) := by decide +kernel
theorem dX7_readsNumber_79 : decode cX7_readsNumber 79 = .ok (.aload_n 0, 1) := by decide +kernel
theorem dX7_readsNumber_80 : decode cX7_readsNumber 80 = .ok (.getfield 133, 3) := by decide +kernel
theorem dX7_readsNumber_83 : decode cX7_readsNumber 83 = .ok (.invokevirtual 144, 3) := by decide +kernel
theorem dX7_readsNumber_86 : decode cX7_readsNumber 86 = .ok (.ireturn, 1) := by decide +kernel
theorem dX7_readsNumber_87 : decode cX7_readsNumber 87 = .ok (.aload_n 0, 1) := by decide +kernel
theorem dX7_readsNumber_88 : decode cX7_readsNumber 88 = .ok (.getfield 147, 3) := by decide +kernel
theorem dX7_readsNumber_91 : decode cX7_readsNumber 91 = .ok (.iload_n 2, 1) := by decide +kernel
theorem dX7_readsNumber_92 : decode cX7_readsNumber 92 = .ok (.iload_n 3, 1) := by decide +kernel
theorem dX7_readsNumber_93 : decode cX7_readsNumber 93 = .ok (.invokestatic 43, 3) := by decide +kernel
theorem dX7_readsNumber_96 : decode cX7_readsNumber 96 = .ok (.ifCond .ne 13, 3) := by decide +kernel
theorem dX7_readsNumber_99 : decode cX7_readsNumber 99 = .ok (.aload_n 0, 1) := by decide +kernel
theorem dX7_readsNumber_100 : decode cX7_readsNumber 100 = .ok (.iconst 2, 1) := by decide +kernel
theorem dX7_readsNumber_101 : decode cX7_readsNumber 101 = .ok (.iload 4, 2) := by decide +kernel
theorem dX7_readsNumber_103 : decode cX7_readsNumber 103 = .ok (.invokevirtual 144, 3) := by decide +kernel
theorem dX7_readsNumber_106 : decode cX7_readsNumber 106 = .ok (.ifCond .eq 7, 3) := by decide +kernel
theorem dX7_readsNumber_109 : decode cX7_readsNumber 109 = .ok (.iconst 1, 1) := by decide +kernel
theorem dX7_readsNumber_110 : decode cX7_readsNumber 110 = .ok (.goto 4, 3) := by decide +kernel
theorem dX7_readsNumber_113 : decode cX7_readsNumber 113 = .ok (.iconst 0, 1) := by decide +kernel
theorem dX7_readsNumber_114 : decode cX7_readsNumber 114 = .ok (.ireturn, 1) := by decide +kernel
theorem dX7_readsInto_0 : decode cX7_readsInto 0 = .ok (.aload_n 0, 1) := by decide +kernel
theorem dX7_readsInto_1 : decode cX7_readsInto 1 = .ok (.iconst 2, 1) := by decide +kernel
theorem dX7_readsInto_2 : decode cX7_readsInto 2 = .ok (.iconst 1, 1) := by decide +kernel
theorem dX7_readsInto_3 : decode cX7_readsInto 3 = .ok (.iload_n 3, 1) := by decide +kernel
theorem dX7_readsInto_4 : decode cX7_readsInto 4 = .ok (.invokevirtual 154, 3) := by decide +kernel
theorem dX7_readsInto_7 : decode cX7_readsInto 7 = .ok (.istore 4, 2) := by decide +kernel
theorem dX7_readsInto_9 : decode cX7_readsInto 9 = .ok (.aload_n 0, 1) := by decide +kernel
theorem dX7_readsInto_10 : decode cX7_readsInto 10 = .ok (.iload_n 1, 1) := by decide +kernel
theorem dX7_readsInto_11 : decode cX7_readsInto 11 = .ok (.iload_n 2, 1) := by decide +kernel
theorem dX7_readsInto_12 : decode cX7_readsInto 12 = .ok (.aload_n 0, 1) := by decide +kernel
theorem dX7_readsInto_13 : decode cX7_readsInto 13 = .ok (.getfield 147, 3) := by decide +kernel
theorem dX7_readsInto_16 : decode cX7_readsInto 16 = .ok (.invokevirtual 63, 3) := by decide +kernel
theorem dX7_readsInto_19 : decode cX7_readsInto 19 = .ok (.iload 4, 2) := by decide +kernel
theorem dX7_readsInto_21 : decode cX7_readsInto 21 = .ok (.ireturn, 1) := by decide +kernel
theorem dX7_readsTray_0 : decode cX7_readsTray 0 = .ok (.aload_n 0, 1) := by decide +kernel
theorem dX7_readsTray_1 : decode cX7_readsTray 1 = .ok (.invokevirtual 39, 3) := by decide +kernel
theorem dX7_readsTray_4 : decode cX7_readsTray 4 = .ok (.istore_n 1, 1) := by decide +kernel
theorem dX7_readsTray_5 : decode cX7_readsTray 5 = .ok (.iload_n 1, 1) := by decide +kernel
theorem dX7_readsTray_6 : decode cX7_readsTray 6 = .ok (.bipush 12, 2) := by decide +kernel
theorem dX7_readsTray_8 : decode cX7_readsTray 8 = .ok (.if_icmp .ne 32, 3) := by decide +kernel
theorem dX7_readsTray_11 : decode cX7_readsTray 11 = .ok (.aload_n 0, 1) := by decide +kernel
theorem dX7_readsTray_12 : decode cX7_readsTray 12 = .ok (.invokevirtual 150, 3) := by decide +kernel
theorem dX7_readsTray_15 : decode cX7_readsTray 15 = .ok (.ifCond .eq 15, 3) := by decide +kernel
theorem dX7_readsTray_18 : decode cX7_readsTray 18 = .ok (.aload_n 0, 1) := by decide +kernel
theorem dX7_readsTray_19 : decode cX7_readsTray 19 = .ok (.iconst 3, 1) := by decide +kernel
theorem dX7_readsTray_20 : decode cX7_readsTray 20 = .ok (.aload_n 0, 1) := by decide +kernel
theorem dX7_readsTray_21 : decode cX7_readsTray 21 = .ok (.getfield 133, 3) := by decide +kernel
theorem dX7_readsTray_24 : decode cX7_readsTray 24 = .ok (.invokevirtual 144, 3) := by decide +kernel
theorem dX7_readsTray_27 : decode cX7_readsTray 27 = .ok (.goto 12, 3) := by decide +kernel
theorem dX7_readsTray_30 : decode cX7_readsTray 30 = .ok (.aload_n 0, 1) := by decide +kernel
theorem dX7_readsTray_31 : decode cX7_readsTray 31 = .ok (.iconst 1, 1) := by decide +kernel
theorem dX7_readsTray_32 : decode cX7_readsTray 32 = .ok (.aload_n 0, 1) := by decide +kernel
theorem dX7_readsTray_33 : decode cX7_readsTray 33 = .ok (.getfield 133, 3) := by decide +kernel
theorem dX7_readsTray_36 : decode cX7_readsTray 36 = .ok (.invokevirtual 144, 3) := by decide +kernel
theorem dX7_readsTray_39 : decode cX7_readsTray 39 = .ok (.ireturn, 1) := by decide +kernel
theorem dX7_readsTray_40 : decode cX7_readsTray 40 = .ok (.aload_n 0, 1) := by decide +kernel
theorem dX7_readsTray_41 : decode cX7_readsTray 41 = .ok (.iload_n 1, 1) := by decide +kernel
theorem dX7_readsTray_42 : decode cX7_readsTray 42 = .ok (.invokevirtual 67, 3) := by decide +kernel
theorem dX7_readsTray_45 : decode cX7_readsTray 45 = .ok (.aload_n 0, 1) := by decide +kernel
theorem dX7_readsTray_46 : decode cX7_readsTray 46 = .ok (.iload_n 1, 1) := by decide +kernel
theorem dX7_readsTray_47 : decode cX7_readsTray 47 = .ok (.iconst 3, 1) := by decide +kernel
theorem dX7_readsTray_48 : decode cX7_readsTray 48 = .ok (.iconst 0, 1) := by decide +kernel
theorem dX7_readsTray_49 : decode cX7_readsTray 49 = .ok (.invokevirtual 63, 3) := by decide +kernel
theorem dX7_readsTray_52 : decode cX7_readsTray 52 = .ok (.aload_n 0, 1) := by decide +kernel
theorem dX7_readsTray_53 : decode cX7_readsTray 53 = .ok (.iload_n 1, 1) := by decide +kernel
theorem dX7_readsTray_54 : decode cX7_readsTray 54 = .ok (.iconst 4, 1) := by decide +kernel
theorem dX7_readsTray_55 : decode cX7_readsTray 55 = .ok (.iconst 0, 1) := by decide +kernel
theorem dX7_readsTray_56 : decode cX7_readsTray 56 = .ok (.invokevirtual 63, 3) := by decide +kernel
theorem dX7_readsTray_59 : decode cX7_readsTray 59 = .ok (.aload_n 0, 1) := by decide +kernel
theorem dX7_readsTray_60 : decode cX7_readsTray 60 = .ok (.iload_n 1, 1) := by decide +kernel
theorem dX7_readsTray_61 : decode cX7_readsTray 61 = .ok (.iconst 0, 1) := by decide +kernel
theorem dX7_readsTray_62 : decode cX7_readsTray 62 = .ok (.bipush 10, 2) := by decide +kernel
theorem dX7_readsTray_64 : decode cX7_readsTray 64 = .ok (.invokevirtual 157, 3) := by decide +kernel
theorem dX7_readsTray_67 : decode cX7_readsTray 67 = .ok (.ifCond .eq 43, 3) := by decide +kernel
theorem dX7_readsTray_70 : decode cX7_readsTray 70 = .ok (.aload_n 0, 1) := by decide +kernel
theorem dX7_readsTray_71 : decode cX7_readsTray 71 = .ok (.bipush 120, 2) := by decide +kernel
theorem dX7_readsTray_73 : decode cX7_readsTray 73 = .ok (.invokevirtual 160, 3) := by decide +kernel
theorem dX7_readsTray_76 : decode cX7_readsTray 76 = .ok (.ifCond .eq 34, 3) := by decide +kernel
theorem dX7_readsTray_79 : decode cX7_readsTray 79 = .ok (.aload_n 0, 1) := by decide +kernel
theorem dX7_readsTray_80 : decode cX7_readsTray 80 = .ok (.iload_n 1, 1) := by decide +kernel
theorem dX7_readsTray_81 : decode cX7_readsTray 81 = .ok (.iconst 1, 1) := by decide +kernel
theorem dX7_readsTray_82 : decode cX7_readsTray 82 = .ok (.bipush 10, 2) := by decide +kernel
theorem dX7_readsTray_84 : decode cX7_readsTray 84 = .ok (.invokevirtual 157, 3) := by decide +kernel
theorem dX7_readsTray_87 : decode cX7_readsTray 87 = .ok (.ifCond .eq 23, 3) := by decide +kernel
theorem dX7_readsTray_90 : decode cX7_readsTray 90 = .ok (.aload_n 0, 1) := by decide +kernel
theorem dX7_readsTray_91 : decode cX7_readsTray 91 = .ok (.bipush 120, 2) := by decide +kernel
theorem dX7_readsTray_93 : decode cX7_readsTray 93 = .ok (.invokevirtual 160, 3) := by decide +kernel
theorem dX7_readsTray_96 : decode cX7_readsTray 96 = .ok (.ifCond .eq 14, 3) := by decide +kernel
theorem dX7_readsTray_99 : decode cX7_readsTray 99 = .ok (.aload_n 0, 1) := by decide +kernel
theorem dX7_readsTray_100 : decode cX7_readsTray 100 = .ok (.iload_n 1, 1) := by decide +kernel
theorem dX7_readsTray_101 : decode cX7_readsTray 101 = .ok (.iconst 2, 1) := by decide +kernel
theorem dX7_readsTray_102 : decode cX7_readsTray 102 = .ok (.bipush 9, 2) := by decide +kernel
theorem dX7_readsTray_104 : decode cX7_readsTray 104 = .ok (.invokevirtual 157, 3) := by decide +kernel
theorem dX7_readsTray_107 : decode cX7_readsTray 107 = .ok (.ifCond .ne 5, 3) := by decide +kernel
theorem dX7_readsTray_110 : decode cX7_readsTray 110 = .ok (.iconst 0, 1) := by decide +kernel
theorem dX7_readsTray_111 : decode cX7_readsTray 111 = .ok (.ireturn, 1) := by decide +kernel
theorem dX7_readsTray_112 : decode cX7_readsTray 112 = .ok (.aload_n 0, 1) := by decide +kernel
theorem dX7_readsTray_113 : decode cX7_readsTray 113 = .ok (.invokevirtual 136, 3) := by decide +kernel
theorem dX7_readsTray_116 : decode cX7_readsTray 116 = .ok (.bipush 108, 2) := by decide +kernel
theorem dX7_readsTray_118 : decode cX7_readsTray 118 = .ok (.if_icmp .ne 20, 3) := by decide +kernel
theorem dX7_readsTray_121 : decode cX7_readsTray 121 = .ok (.aload_n 0, 1) := by decide +kernel
theorem dX7_readsTray_122 : decode cX7_readsTray 122 = .ok (.iload_n 1, 1) := by decide +kernel
theorem dX7_readsTray_123 : decode cX7_readsTray 123 = .ok (.iconst 4, 1) := by decide +kernel
theorem dX7_readsTray_124 : decode cX7_readsTray 124 = .ok (.iconst 1, 1) := by decide +kernel
theorem dX7_readsTray_125 : decode cX7_readsTray 125 = .ok (.invokevirtual 63, 3) := by decide +kernel
theorem dX7_readsTray_128 : decode cX7_readsTray 128 = .ok (.aload_n 0, 1) := by decide +kernel
theorem dX7_readsTray_129 : decode cX7_readsTray 129 = .ok (.dup, 1) := by decide +kernel
theorem dX7_readsTray_130 : decode cX7_readsTray 130 = .ok (.getfield 133, 3) := by decide +kernel
theorem dX7_readsTray_133 : decode cX7_readsTray 133 = .ok (.iconst 1, 1) := by decide +kernel
theorem dX7_readsTray_134 : decode cX7_readsTray 134 = .ok (.iadd, 1) := by decide +kernel
theorem dX7_readsTray_135 : decode cX7_readsTray 135 = .ok (.putfield 133, 3) := by decide +kernel
theorem dX7_readsTray_138 : decode cX7_readsTray 138 = .ok (.aload_n 0, 1) := by decide +kernel
theorem dX7_readsTray_139 : decode cX7_readsTray 139 = .ok (.invokevirtual 136, 3) := by decide +kernel
theorem dX7_readsTray_142 : decode cX7_readsTray 142 = .ok (.bipush 64, 2) := by decide +kernel
theorem dX7_readsTray_144 : decode cX7_readsTray 144 = .ok (.if_icmp .ne 36, 3) := by decide +kernel
theorem dX7_readsTray_147 : decode cX7_readsTray 147 = .ok (.aload_n 0, 1) := by decide +kernel
theorem dX7_readsTray_148 : decode cX7_readsTray 148 = .ok (.dup, 1) := by decide +kernel
theorem dX7_readsTray_149 : decode cX7_readsTray 149 = .ok (.getfield 133, 3) := by decide +kernel
theorem dX7_readsTray_152 : decode cX7_readsTray 152 = .ok (.iconst 1, 1) := by decide +kernel
theorem dX7_readsTray_153 : decode cX7_readsTray 153 = .ok (.iadd, 1) := by decide +kernel
theorem dX7_readsTray_154 : decode cX7_readsTray 154 = .ok (.putfield 133, 3) := by decide +kernel
theorem dX7_readsTray_157 : decode cX7_readsTray 157 = .ok (.aload_n 0, 1) := by decide +kernel
theorem dX7_readsTray_158 : decode cX7_readsTray 158 = .ok (.iconst 1, 1) := by decide +kernel
theorem dX7_readsTray_159 : decode cX7_readsTray 159 = .ok (.iconst 0, 1) := by decide +kernel
theorem dX7_readsTray_160 : decode cX7_readsTray 160 = .ok (.bipush 9, 2) := by decide +kernel
theorem dX7_readsTray_162 : decode cX7_readsTray 162 = .ok (.invokevirtual 154, 3) := by decide +kernel
theorem dX7_readsTray_165 : decode cX7_readsTray 165 = .ok (.ifCond .ne 5, 3) := by decide +kernel
theorem dX7_readsTray_168 : decode cX7_readsTray 168 = .ok (.iconst 0, 1) := by decide +kernel
theorem dX7_readsTray_169 : decode cX7_readsTray 169 = .ok (.ireturn, 1) := by decide +kernel
theorem dX7_readsTray_170 : decode cX7_readsTray 170 = .ok (.aload_n 0, 1) := by decide +kernel
theorem dX7_readsTray_171 : decode cX7_readsTray 171 = .ok (.iload_n 1, 1) := by decide +kernel
theorem dX7_readsTray_172 : decode cX7_readsTray 172 = .ok (.iconst 3, 1) := by decide +kernel
theorem dX7_readsTray_173 : decode cX7_readsTray 173 = .ok (.aload_n 0, 1) := by decide +kernel
theorem dX7_readsTray_174 : decode cX7_readsTray 174 = .ok (.getfield 147, 3) := by decide +kernel
theorem dX7_readsTray_177 : decode cX7_readsTray 177 = .ok (.invokevirtual 63, 3) := by decide +kernel
theorem dX7_readsTray_180 : decode cX7_readsTray 180 = .ok (.aload_n 0, 1) := by decide +kernel
theorem dX7_readsTray_181 : decode cX7_readsTray 181 = .ok (.getfield 7, 3) := by decide +kernel
theorem dX7_readsTray_184 : decode cX7_readsTray 184 = .ok (.iconst 4, 1) := by decide +kernel
theorem dX7_readsTray_185 : decode cX7_readsTray 185 = .ok (.dup2, 1) := by decide +kernel
theorem dX7_readsTray_186 : decode cX7_readsTray 186 = .ok (.iaload, 1) := by decide +kernel
theorem dX7_readsTray_187 : decode cX7_readsTray 187 = .ok (.iconst 1, 1) := by decide +kernel
theorem dX7_readsTray_188 : decode cX7_readsTray 188 = .ok (.iadd, 1) := by decide +kernel
theorem dX7_readsTray_189 : decode cX7_readsTray 189 = .ok (.iastore, 1) := by decide +kernel
theorem dX7_readsTray_190 : decode cX7_readsTray 190 = .ok (.aload_n 0, 1) := by decide +kernel
theorem dX7_readsTray_191 : decode cX7_readsTray 191 = .ok (.bipush 59, 2) := by decide +kernel
theorem dX7_readsTray_193 : decode cX7_readsTray 193 = .ok (.invokevirtual 160, 3) := by decide +kernel
theorem dX7_readsTray_196 : decode cX7_readsTray 196 = .ok (.ireturn, 1) := by decide +kernel
theorem dX7_load_0 : decode cX7_load 0 = .ok (.aload_n 0, 1) := by decide +kernel
theorem dX7_load_1 : decode cX7_load 1 = .ok (.iconst 0, 1) := by decide +kernel
theorem dX7_load_2 : decode cX7_load 2 = .ok (.bipush 9, 2) := by decide +kernel
theorem dX7_load_4 : decode cX7_load 4 = .ok (.invokevirtual 35, 3) := by decide +kernel
theorem dX7_load_7 : decode cX7_load 7 = .ok (.aload_n 0, 1) := by decide +kernel
theorem dX7_load_8 : decode cX7_load 8 = .ok (.iconst 0, 1) := by decide +kernel
theorem dX7_load_9 : decode cX7_load 9 = .ok (.putfield 139, 3) := by decide +kernel
theorem dX7_load_12 : decode cX7_load 12 = .ok (.aload_n 0, 1) := by decide +kernel
theorem dX7_load_13 : decode cX7_load 13 = .ok (.iconst 0, 1) := by decide +kernel
theorem dX7_load_14 : decode cX7_load 14 = .ok (.putfield 133, 3) := by decide +kernel
theorem dX7_load_17 : decode cX7_load 17 = .ok (.aload_n 0, 1) := by decide +kernel
theorem dX7_load_18 : decode cX7_load 18 = .ok (.getfield 7, 3) := by decide +kernel
theorem dX7_load_21 : decode cX7_load 21 = .ok (.iconst 4, 1) := by decide +kernel
theorem dX7_load_22 : decode cX7_load 22 = .ok (.iconst 0, 1) := by decide +kernel
theorem dX7_load_23 : decode cX7_load 23 = .ok (.iastore, 1) := by decide +kernel
theorem dX7_load_24 : decode cX7_load 24 = .ok (.iconst 1, 1) := by decide +kernel
theorem dX7_load_25 : decode cX7_load 25 = .ok (.istore_n 1, 1) := by decide +kernel
theorem dX7_load_26 : decode cX7_load 26 = .ok (.iload_n 1, 1) := by decide +kernel
theorem dX7_load_27 : decode cX7_load 27 = .ok (.ifCond .eq 22, 3) := by decide +kernel
theorem dX7_load_30 : decode cX7_load 30 = .ok (.aload_n 0, 1) := by decide +kernel
theorem dX7_load_31 : decode cX7_load 31 = .ok (.getfield 133, 3) := by decide +kernel
theorem dX7_load_34 : decode cX7_load 34 = .ok (.aload_n 0, 1) := by decide +kernel
theorem dX7_load_35 : decode cX7_load 35 = .ok (.getfield 130, 3) := by decide +kernel
theorem dX7_load_38 : decode cX7_load 38 = .ok (.if_icmp .ge 11, 3) := by decide +kernel
theorem dX7_load_41 : decode cX7_load 41 = .ok (.aload_n 0, 1) := by decide +kernel
theorem dX7_load_42 : decode cX7_load 42 = .ok (.invokevirtual 163, 3) := by decide +kernel
theorem dX7_load_45 : decode cX7_load 45 = .ok (.istore_n 1, 1) := by decide +kernel
theorem dX7_load_46 : decode cX7_load 46 = .ok (.goto (-20), 3) := by decide +kernel
theorem dX7_load_49 : decode cX7_load 49 = .ok (.iload_n 1, 1) := by decide +kernel
theorem dX7_load_50 : decode cX7_load 50 = .ok (.ifCond .ne 18, 3) := by decide +kernel
theorem dX7_load_53 : decode cX7_load 53 = .ok (.aload_n 0, 1) := by decide +kernel
theorem dX7_load_54 : decode cX7_load 54 = .ok (.bipush 9, 2) := by decide +kernel
theorem dX7_load_56 : decode cX7_load 56 = .ok (.iconst 0, 1) := by decide +kernel
theorem dX7_load_57 : decode cX7_load 57 = .ok (.invokevirtual 35, 3) := by decide +kernel
theorem dX7_load_60 : decode cX7_load 60 = .ok (.bipush (-10), 2) := by decide +kernel
theorem dX7_load_62 : decode cX7_load 62 = .ok (.aload_n 0, 1) := by decide +kernel
theorem dX7_load_63 : decode cX7_load 63 = .ok (.getfield 141, 3) := by decide +kernel
theorem dX7_load_66 : decode cX7_load 66 = .ok (.isub, 1) := by decide +kernel
theorem dX7_load_67 : decode cX7_load 67 = .ok (.ireturn, 1) := by decide +kernel
theorem dX7_load_68 : decode cX7_load 68 = .ok (.aload_n 0, 1) := by decide +kernel
theorem dX7_load_69 : decode cX7_load 69 = .ok (.bipush 9, 2) := by decide +kernel
theorem dX7_load_71 : decode cX7_load 71 = .ok (.invokevirtual 166, 3) := by decide +kernel
theorem dX7_load_74 : decode cX7_load 74 = .ok (.aload_n 0, 1) := by decide +kernel
theorem dX7_load_75 : decode cX7_load 75 = .ok (.invokevirtual 39, 3) := by decide +kernel
theorem dX7_load_78 : decode cX7_load 78 = .ok (.ireturn, 1) := by decide +kernel
theorem dX7_recordsKept_0 : decode cX7_recordsKept 0 = .ok (.iconst 0, 1) := by decide +kernel
theorem dX7_recordsKept_1 : decode cX7_recordsKept 1 = .ok (.istore_n 2, 1) := by decide +kernel
theorem dX7_recordsKept_2 : decode cX7_recordsKept 2 = .ok (.iload_n 2, 1) := by decide +kernel
theorem dX7_recordsKept_3 : decode cX7_recordsKept 3 = .ok (.bipush 125, 2) := by decide +kernel
theorem dX7_recordsKept_5 : decode cX7_recordsKept 5 = .ok (.if_icmp .ge 45, 3) := by decide +kernel
theorem dX7_recordsKept_8 : decode cX7_recordsKept 8 = .ok (.aload_n 0, 1) := by decide +kernel
theorem dX7_recordsKept_9 : decode cX7_recordsKept 9 = .ok (.getfield 7, 3) := by decide +kernel
theorem dX7_recordsKept_12 : decode cX7_recordsKept 12 = .ok (.iload_n 2, 1) := by decide +kernel
theorem dX7_recordsKept_13 : decode cX7_recordsKept 13 = .ok (.iaload, 1) := by decide +kernel
theorem dX7_recordsKept_14 : decode cX7_recordsKept 14 = .ok (.istore_n 3, 1) := by decide +kernel
theorem dX7_recordsKept_15 : decode cX7_recordsKept 15 = .ok (.aload_n 0, 1) := by decide +kernel
theorem dX7_recordsKept_16 : decode cX7_recordsKept 16 = .ok (.getfield 7, 3) := by decide +kernel
theorem dX7_recordsKept_19 : decode cX7_recordsKept 19 = .ok (.iload_n 2, 1) := by decide +kernel
theorem dX7_recordsKept_20 : decode cX7_recordsKept 20 = .ok (.aload_n 0, 1) := by decide +kernel
theorem dX7_recordsKept_21 : decode cX7_recordsKept 21 = .ok (.getfield 7, 3) := by decide +kernel
theorem dX7_recordsKept_24 : decode cX7_recordsKept 24 = .ok (.bipush 125, 2) := by decide +kernel
theorem dX7_recordsKept_26 : decode cX7_recordsKept 26 = .ok (.iload_n 1, 1) := by decide +kernel
theorem dX7_recordsKept_27 : decode cX7_recordsKept 27 = .ok (.imul, 1) := by decide +kernel
theorem dX7_recordsKept_28 : decode cX7_recordsKept 28 = .ok (.iload_n 2, 1) := by decide +kernel
theorem dX7_recordsKept_29 : decode cX7_recordsKept 29 = .ok (.iadd, 1) := by decide +kernel
theorem dX7_recordsKept_30 : decode cX7_recordsKept 30 = .ok (.iaload, 1) := by decide +kernel
theorem dX7_recordsKept_31 : decode cX7_recordsKept 31 = .ok (.iastore, 1) := by decide +kernel
theorem dX7_recordsKept_32 : decode cX7_recordsKept 32 = .ok (.aload_n 0, 1) := by decide +kernel
theorem dX7_recordsKept_33 : decode cX7_recordsKept 33 = .ok (.getfield 7, 3) := by decide +kernel
theorem dX7_recordsKept_36 : decode cX7_recordsKept 36 = .ok (.bipush 125, 2) := by decide +kernel
theorem dX7_recordsKept_38 : decode cX7_recordsKept 38 = .ok (.iload_n 1, 1) := by decide +kernel
theorem dX7_recordsKept_39 : decode cX7_recordsKept 39 = .ok (.imul, 1) := by decide +kernel
theorem dX7_recordsKept_40 : decode cX7_recordsKept 40 = .ok (.iload_n 2, 1) := by decide +kernel
theorem dX7_recordsKept_41 : decode cX7_recordsKept 41 = .ok (.iadd, 1) := by decide +kernel
theorem dX7_recordsKept_42 : decode cX7_recordsKept 42 = .ok (.iload_n 3, 1) := by decide +kernel
theorem dX7_recordsKept_43 : decode cX7_recordsKept 43 = .ok (.iastore, 1) := by decide +kernel
theorem dX7_recordsKept_44 : decode cX7_recordsKept 44 = .ok (.iinc 2 1, 3) := by decide +kernel
theorem dX7_recordsKept_47 : decode cX7_recordsKept 47 = .ok (.goto (-45), 3) := by decide +kernel
theorem dX7_recordsKept_50 : decode cX7_recordsKept 50 = .ok (.aload_n 0, 1) := by decide +kernel
theorem dX7_recordsKept_51 : decode cX7_recordsKept 51 = .ok (.invokevirtual 104, 3) := by decide +kernel
theorem dX7_recordsKept_54 : decode cX7_recordsKept 54 = .ok (.aload_n 0, 1) := by decide +kernel
theorem dX7_recordsKept_55 : decode cX7_recordsKept 55 = .ok (.iload_n 1, 1) := by decide +kernel
theorem dX7_recordsKept_56 : decode cX7_recordsKept 56 = .ok (.iconst 0, 1) := by decide +kernel
theorem dX7_recordsKept_57 : decode cX7_recordsKept 57 = .ok (.invokevirtual 35, 3) := by decide +kernel
theorem dX7_recordsKept_60 : decode cX7_recordsKept 60 = .ok (.return_, 1) := by decide +kernel
theorem dX7_faultKind_0 : decode cX7_faultKind 0 = .ok (.aload_n 0, 1) := by decide +kernel
theorem dX7_faultKind_1 : decode cX7_faultKind 1 = .ok (.getfield 139, 3) := by decide +kernel
theorem dX7_faultKind_4 : decode cX7_faultKind 4 = .ok (.ireturn, 1) := by decide +kernel
theorem dX7_setBox_0 : decode cX7_setBox 0 = .ok (.iload_n 1, 1) := by decide +kernel
theorem dX7_setBox_1 : decode cX7_setBox 1 = .ok (.iconst 2, 1) := by decide +kernel
theorem dX7_setBox_2 : decode cX7_setBox 2 = .ok (.bipush 10, 2) := by decide +kernel
theorem dX7_setBox_4 : decode cX7_setBox 4 = .ok (.invokestatic 43, 3) := by decide +kernel
theorem dX7_setBox_7 : decode cX7_setBox 7 = .ok (.ifCond .eq 23, 3) := by decide +kernel
theorem dX7_setBox_10 : decode cX7_setBox 10 = .ok (.iload_n 2, 1) := by decide +kernel
theorem dX7_setBox_11 : decode cX7_setBox 11 = .ok (.iconst 2, 1) := by decide +kernel
theorem dX7_setBox_12 : decode cX7_setBox 12 = .ok (.bipush 10, 2) := by decide +kernel
theorem dX7_setBox_14 : decode cX7_setBox 14 = .ok (.invokestatic 43, 3) := by decide +kernel
theorem dX7_setBox_17 : decode cX7_setBox 17 = .ok (.ifCond .eq 13, 3) := by decide +kernel
theorem dX7_setBox_20 : decode cX7_setBox 20 = .ok (.iload_n 3, 1) := by decide +kernel
theorem dX7_setBox_21 : decode cX7_setBox 21 = .ok (.iconst 1, 1) := by decide +kernel
theorem dX7_setBox_22 : decode cX7_setBox 22 = .ok (.bipush 30, 2) := by decide +kernel
theorem dX7_setBox_24 : decode cX7_setBox 24 = .ok (.invokestatic 43, 3) := by decide +kernel
theorem dX7_setBox_27 : decode cX7_setBox 27 = .ok (.ifCond .ne 5, 3) := by decide +kernel
theorem dX7_setBox_30 : decode cX7_setBox 30 = .ok (.iconst (-1), 1) := by decide +kernel
theorem dX7_setBox_31 : decode cX7_setBox 31 = .ok (.ireturn, 1) := by decide +kernel
theorem dX7_setBox_32 : decode cX7_setBox 32 = .ok (.aload_n 0, 1) := by decide +kernel
theorem dX7_setBox_33 : decode cX7_setBox 33 = .ok (.invokevirtual 104, 3) := by decide +kernel
theorem dX7_setBox_36 : decode cX7_setBox 36 = .ok (.aload_n 0, 1) := by decide +kernel
theorem dX7_setBox_37 : decode cX7_setBox 37 = .ok (.invokevirtual 169, 3) := by decide +kernel
theorem dX7_setBox_40 : decode cX7_setBox 40 = .ok (.istore 4, 2) := by decide +kernel
theorem dX7_setBox_42 : decode cX7_setBox 42 = .ok (.aload_n 0, 1) := by decide +kernel
theorem dX7_setBox_43 : decode cX7_setBox 43 = .ok (.invokevirtual 172, 3) := by decide +kernel
theorem dX7_setBox_46 : decode cX7_setBox 46 = .ok (.aload_n 0, 1) := by decide +kernel
theorem dX7_setBox_47 : decode cX7_setBox 47 = .ok (.getfield 7, 3) := by decide +kernel
theorem dX7_setBox_50 : decode cX7_setBox 50 = .ok (.iconst 0, 1) := by decide +kernel
theorem dX7_setBox_51 : decode cX7_setBox 51 = .ok (.iload_n 1, 1) := by decide +kernel
theorem dX7_setBox_52 : decode cX7_setBox 52 = .ok (.iastore, 1) := by decide +kernel
theorem dX7_setBox_53 : decode cX7_setBox 53 = .ok (.aload_n 0, 1) := by decide +kernel
theorem dX7_setBox_54 : decode cX7_setBox 54 = .ok (.getfield 7, 3) := by decide +kernel
theorem dX7_setBox_57 : decode cX7_setBox 57 = .ok (.iconst 1, 1) := by decide +kernel
theorem dX7_setBox_58 : decode cX7_setBox 58 = .ok (.iload_n 2, 1) := by decide +kernel
theorem dX7_setBox_59 : decode cX7_setBox 59 = .ok (.iastore, 1) := by decide +kernel
theorem dX7_setBox_60 : decode cX7_setBox 60 = .ok (.aload_n 0, 1) := by decide +kernel
theorem dX7_setBox_61 : decode cX7_setBox 61 = .ok (.getfield 7, 3) := by decide +kernel
theorem dX7_setBox_64 : decode cX7_setBox 64 = .ok (.iconst 2, 1) := by decide +kernel
theorem dX7_setBox_65 : decode cX7_setBox 65 = .ok (.iload_n 3, 1) := by decide +kernel
theorem dX7_setBox_66 : decode cX7_setBox 66 = .ok (.iastore, 1) := by decide +kernel
theorem dX7_setBox_67 : decode cX7_setBox 67 = .ok (.iload 4, 2) := by decide +kernel
theorem dX7_setBox_69 : decode cX7_setBox 69 = .ok (.ireturn, 1) := by decide +kernel
theorem dX7_setShare_0 : decode cX7_setShare 0 = .ok (.iload_n 1, 1) := by decide +kernel
theorem dX7_setShare_1 : decode cX7_setShare 1 = .ok (.iconst 0, 1) := by decide +kernel
theorem dX7_setShare_2 : decode cX7_setShare 2 = .ok (.bipush 100, 2) := by decide +kernel
theorem dX7_setShare_4 : decode cX7_setShare 4 = .ok (.invokestatic 43, 3) := by decide +kernel
theorem dX7_setShare_7 : decode cX7_setShare 7 = .ok (.ifCond .ne 5, 3) := by decide +kernel
theorem dX7_setShare_10 : decode cX7_setShare 10 = .ok (.iconst (-1), 1) := by decide +kernel
theorem dX7_setShare_11 : decode cX7_setShare 11 = .ok (.ireturn, 1) := by decide +kernel
theorem dX7_setShare_12 : decode cX7_setShare 12 = .ok (.aload_n 0, 1) := by decide +kernel
theorem dX7_setShare_13 : decode cX7_setShare 13 = .ok (.invokevirtual 104, 3) := by decide +kernel
theorem dX7_setShare_16 : decode cX7_setShare 16 = .ok (.aload_n 0, 1) := by decide +kernel
theorem dX7_setShare_17 : decode cX7_setShare 17 = .ok (.getfield 7, 3) := by decide +kernel
theorem dX7_setShare_20 : decode cX7_setShare 20 = .ok (.iconst 3, 1) := by decide +kernel
theorem dX7_setShare_21 : decode cX7_setShare 21 = .ok (.iaload, 1) := by decide +kernel
theorem dX7_setShare_22 : decode cX7_setShare 22 = .ok (.istore_n 2, 1) := by decide +kernel
theorem dX7_setShare_23 : decode cX7_setShare 23 = .ok (.aload_n 0, 1) := by decide +kernel
theorem dX7_setShare_24 : decode cX7_setShare 24 = .ok (.getfield 7, 3) := by decide +kernel
theorem dX7_setShare_27 : decode cX7_setShare 27 = .ok (.iconst 3, 1) := by decide +kernel
theorem dX7_setShare_28 : decode cX7_setShare 28 = .ok (.iload_n 1, 1) := by decide +kernel
theorem dX7_setShare_29 : decode cX7_setShare 29 = .ok (.iastore, 1) := by decide +kernel
theorem dX7_setShare_30 : decode cX7_setShare 30 = .ok (.iload_n 2, 1) := by decide +kernel
theorem dX7_setShare_31 : decode cX7_setShare 31 = .ok (.ireturn, 1) := by decide +kernel
theorem dX7_add_0 : decode cX7_add 0 = .ok (.iload_n 1, 1) := by decide +kernel
theorem dX7_add_1 : decode cX7_add 1 = .ok (.iconst 1, 1) := by decide +kernel
theorem dX7_add_2 : decode cX7_add 2 = .ok (.bipush 10, 2) := by decide +kernel
theorem dX7_add_4 : decode cX7_add 4 = .ok (.invokestatic 43, 3) := by decide +kernel
theorem dX7_add_7 : decode cX7_add 7 = .ok (.ifCond .eq 34, 3) := by decide +kernel
theorem dX7_add_10 : decode cX7_add 10 = .ok (.iload_n 2, 1) := by decide +kernel
theorem dX7_add_11 : decode cX7_add 11 = .ok (.iconst 1, 1) := by decide +kernel
theorem dX7_add_12 : decode cX7_add 12 = .ok (.bipush 10, 2) := by decide +kernel
theorem dX7_add_14 : decode cX7_add 14 = .ok (.invokestatic 43, 3) := by decide +kernel
theorem dX7_add_17 : decode cX7_add 17 = .ok (.ifCond .eq 24, 3) := by decide +kernel
theorem dX7_add_20 : decode cX7_add 20 = .ok (.iload_n 3, 1) := by decide +kernel
theorem dX7_add_21 : decode cX7_add 21 = .ok (.iconst 1, 1) := by decide +kernel
theorem dX7_add_22 : decode cX7_add 22 = .ok (.bipush 9, 2) := by decide +kernel
theorem dX7_add_24 : decode cX7_add 24 = .ok (.invokestatic 43, 3) := by decide +kernel
theorem dX7_add_27 : decode cX7_add 27 = .ok (.ifCond .eq 14, 3) := by decide +kernel
theorem dX7_add_30 : decode cX7_add 30 = .ok (.iload 4, 2) := by decide +kernel
theorem dX7_add_32 : decode cX7_add 32 = .ok (.iconst 0, 1) := by decide +kernel
theorem dX7_add_33 : decode cX7_add 33 = .ok (.bipush 9, 2) := by decide +kernel
theorem dX7_add_35 : decode cX7_add 35 = .ok (.invokestatic 43, 3) := by decide +kernel
theorem dX7_add_38 : decode cX7_add 38 = .ok (.ifCond .ne 5, 3) := by decide +kernel
theorem dX7_add_41 : decode cX7_add 41 = .ok (.iconst (-1), 1) := by decide +kernel
theorem dX7_add_42 : decode cX7_add 42 = .ok (.ireturn, 1) := by decide +kernel
theorem dX7_add_43 : decode cX7_add 43 = .ok (.aload_n 0, 1) := by decide +kernel
theorem dX7_add_44 : decode cX7_add 44 = .ok (.invokevirtual 39, 3) := by decide +kernel
theorem dX7_add_47 : decode cX7_add 47 = .ok (.bipush 12, 2) := by decide +kernel
theorem dX7_add_49 : decode cX7_add 49 = .ok (.if_icmp .ne 6, 3) := by decide +kernel
theorem dX7_add_52 : decode cX7_add 52 = .ok (.bipush (-3), 2) := by decide +kernel
theorem dX7_add_54 : decode cX7_add 54 = .ok (.ireturn, 1) := by decide +kernel
theorem dX7_add_55 : decode cX7_add 55 = .ok (.aload_n 0, 1) := by decide +kernel
theorem dX7_add_56 : decode cX7_add 56 = .ok (.invokevirtual 104, 3) := by decide +kernel
theorem dX7_add_59 : decode cX7_add 59 = .ok (.aload_n 0, 1) := by decide +kernel
theorem dX7_add_60 : decode cX7_add 60 = .ok (.invokevirtual 39, 3) := by decide +kernel
theorem dX7_add_63 : decode cX7_add 63 = .ok (.istore 5, 2) := by decide +kernel
theorem dX7_add_65 : decode cX7_add 65 = .ok (.aload_n 0, 1) := by decide +kernel
theorem dX7_add_66 : decode cX7_add 66 = .ok (.iload 5, 2) := by decide +kernel
theorem dX7_add_68 : decode cX7_add 68 = .ok (.invokevirtual 67, 3) := by decide +kernel
theorem dX7_add_71 : decode cX7_add 71 = .ok (.aload_n 0, 1) := by decide +kernel
theorem dX7_add_72 : decode cX7_add 72 = .ok (.iload 5, 2) := by decide +kernel
theorem dX7_add_74 : decode cX7_add 74 = .ok (.iconst 0, 1) := by decide +kernel
theorem dX7_add_75 : decode cX7_add 75 = .ok (.iload_n 1, 1) := by decide +kernel
theorem dX7_add_76 : decode cX7_add 76 = .ok (.invokevirtual 63, 3) := by decide +kernel
theorem dX7_add_79 : decode cX7_add 79 = .ok (.aload_n 0, 1) := by decide +kernel
theorem dX7_add_80 : decode cX7_add 80 = .ok (.iload 5, 2) := by decide +kernel
theorem dX7_add_82 : decode cX7_add 82 = .ok (.iconst 1, 1) := by decide +kernel
theorem dX7_add_83 : decode cX7_add 83 = .ok (.iload_n 2, 1) := by decide +kernel
theorem dX7_add_84 : decode cX7_add 84 = .ok (.invokevirtual 63, 3) := by decide +kernel
theorem dX7_add_87 : decode cX7_add 87 = .ok (.aload_n 0, 1) := by decide +kernel
theorem dX7_add_88 : decode cX7_add 88 = .ok (.iload 5, 2) := by decide +kernel
theorem dX7_add_90 : decode cX7_add 90 = .ok (.iconst 2, 1) := by decide +kernel
theorem dX7_add_91 : decode cX7_add 91 = .ok (.iload_n 3, 1) := by decide +kernel
theorem dX7_add_92 : decode cX7_add 92 = .ok (.invokevirtual 63, 3) := by decide +kernel
theorem dX7_add_95 : decode cX7_add 95 = .ok (.aload_n 0, 1) := by decide +kernel
theorem dX7_add_96 : decode cX7_add 96 = .ok (.iload 5, 2) := by decide +kernel
theorem dX7_add_98 : decode cX7_add 98 = .ok (.iconst 3, 1) := by decide +kernel
theorem dX7_add_99 : decode cX7_add 99 = .ok (.iload 4, 2) := by decide +kernel
theorem dX7_add_101 : decode cX7_add 101 = .ok (.invokevirtual 63, 3) := by decide +kernel
theorem dX7_add_104 : decode cX7_add 104 = .ok (.aload_n 0, 1) := by decide +kernel
theorem dX7_add_105 : decode cX7_add 105 = .ok (.iload 5, 2) := by decide +kernel
theorem dX7_add_107 : decode cX7_add 107 = .ok (.iconst 4, 1) := by decide +kernel
theorem dX7_add_108 : decode cX7_add 108 = .ok (.iconst 0, 1) := by decide +kernel
theorem dX7_add_109 : decode cX7_add 109 = .ok (.invokevirtual 63, 3) := by decide +kernel
theorem dX7_add_112 : decode cX7_add 112 = .ok (.aload_n 0, 1) := by decide +kernel
theorem dX7_add_113 : decode cX7_add 113 = .ok (.getfield 7, 3) := by decide +kernel
theorem dX7_add_116 : decode cX7_add 116 = .ok (.iconst 4, 1) := by decide +kernel
theorem dX7_add_117 : decode cX7_add 117 = .ok (.dup2, 1) := by decide +kernel
theorem dX7_add_118 : decode cX7_add 118 = .ok (.iaload, 1) := by decide +kernel
theorem dX7_add_119 : decode cX7_add 119 = .ok (.iconst 1, 1) := by decide +kernel
theorem dX7_add_120 : decode cX7_add 120 = .ok (.iadd, 1) := by decide +kernel
theorem dX7_add_121 : decode cX7_add 121 = .ok (.iastore, 1) := by decide +kernel
theorem dX7_add_122 : decode cX7_add 122 = .ok (.iload 5, 2) := by decide +kernel
theorem dX7_add_124 : decode cX7_add 124 = .ok (.ireturn, 1) := by decide +kernel
theorem dX7_drop_0 : decode cX7_drop 0 = .ok (.aload_n 0, 1) := by decide +kernel
theorem dX7_drop_1 : decode cX7_drop 1 = .ok (.iload_n 1, 1) := by decide +kernel
theorem dX7_drop_2 : decode cX7_drop 2 = .ok (.invokevirtual 94, 3) := by decide +kernel
theorem dX7_drop_5 : decode cX7_drop 5 = .ok (.ifCond .ne 5, 3) := by decide +kernel
theorem dX7_drop_8 : decode cX7_drop 8 = .ok (.iconst (-1), 1) := by decide +kernel
theorem dX7_drop_9 : decode cX7_drop 9 = .ok (.ireturn, 1) := by decide +kernel
theorem dX7_drop_10 : decode cX7_drop 10 = .ok (.aload_n 0, 1) := by decide +kernel
theorem dX7_drop_11 : decode cX7_drop 11 = .ok (.iload_n 1, 1) := by decide +kernel
theorem dX7_drop_12 : decode cX7_drop 12 = .ok (.invokevirtual 71, 3) := by decide +kernel
theorem dX7_drop_15 : decode cX7_drop 15 = .ok (.ifCond .eq 6, 3) := by decide +kernel
theorem dX7_drop_18 : decode cX7_drop 18 = .ok (.bipush (-2), 2) := by decide +kernel
theorem dX7_drop_20 : decode cX7_drop 20 = .ok (.ireturn, 1) := by decide +kernel
theorem dX7_drop_21 : decode cX7_drop 21 = .ok (.aload_n 0, 1) := by decide +kernel
theorem dX7_drop_22 : decode cX7_drop 22 = .ok (.invokevirtual 104, 3) := by decide +kernel
theorem dX7_drop_25 : decode cX7_drop 25 = .ok (.aload_n 0, 1) := by decide +kernel
theorem dX7_drop_26 : decode cX7_drop 26 = .ok (.getfield 7, 3) := by decide +kernel
theorem dX7_drop_29 : decode cX7_drop 29 = .ok (.iconst 4, 1) := by decide +kernel
theorem dX7_drop_30 : decode cX7_drop 30 = .ok (.dup2, 1) := by decide +kernel
theorem dX7_drop_31 : decode cX7_drop 31 = .ok (.iaload, 1) := by decide +kernel
theorem dX7_drop_32 : decode cX7_drop 32 = .ok (.iconst 1, 1) := by decide +kernel
theorem dX7_drop_33 : decode cX7_drop 33 = .ok (.isub, 1) := by decide +kernel
theorem dX7_drop_34 : decode cX7_drop 34 = .ok (.iastore, 1) := by decide +kernel
theorem dX7_drop_35 : decode cX7_drop 35 = .ok (.iconst 5, 1) := by decide +kernel
theorem dX7_drop_36 : decode cX7_drop 36 = .ok (.bipush 10, 2) := by decide +kernel
theorem dX7_drop_38 : decode cX7_drop 38 = .ok (.iload_n 1, 1) := by decide +kernel
theorem dX7_drop_39 : decode cX7_drop 39 = .ok (.imul, 1) := by decide +kernel
theorem dX7_drop_40 : decode cX7_drop 40 = .ok (.iadd, 1) := by decide +kernel
theorem dX7_drop_41 : decode cX7_drop 41 = .ok (.istore_n 2, 1) := by decide +kernel
theorem dX7_drop_42 : decode cX7_drop 42 = .ok (.iload_n 2, 1) := by decide +kernel
theorem dX7_drop_43 : decode cX7_drop 43 = .ok (.iconst 5, 1) := by decide +kernel
theorem dX7_drop_44 : decode cX7_drop 44 = .ok (.bipush 10, 2) := by decide +kernel
theorem dX7_drop_46 : decode cX7_drop 46 = .ok (.aload_n 0, 1) := by decide +kernel
theorem dX7_drop_47 : decode cX7_drop 47 = .ok (.invokevirtual 39, 3) := by decide +kernel
theorem dX7_drop_50 : decode cX7_drop 50 = .ok (.imul, 1) := by decide +kernel
theorem dX7_drop_51 : decode cX7_drop 51 = .ok (.iadd, 1) := by decide +kernel
theorem dX7_drop_52 : decode cX7_drop 52 = .ok (.if_icmp .ge 24, 3) := by decide +kernel
theorem dX7_drop_55 : decode cX7_drop 55 = .ok (.aload_n 0, 1) := by decide +kernel
theorem dX7_drop_56 : decode cX7_drop 56 = .ok (.getfield 7, 3) := by decide +kernel
theorem dX7_drop_59 : decode cX7_drop 59 = .ok (.iload_n 2, 1) := by decide +kernel
theorem dX7_drop_60 : decode cX7_drop 60 = .ok (.aload_n 0, 1) := by decide +kernel
theorem dX7_drop_61 : decode cX7_drop 61 = .ok (.getfield 7, 3) := by decide +kernel
theorem dX7_drop_64 : decode cX7_drop 64 = .ok (.iload_n 2, 1) := by decide +kernel
theorem dX7_drop_65 : decode cX7_drop 65 = .ok (.bipush 10, 2) := by decide +kernel
theorem dX7_drop_67 : decode cX7_drop 67 = .ok (.iadd, 1) := by decide +kernel
theorem dX7_drop_68 : decode cX7_drop 68 = .ok (.iaload, 1) := by decide +kernel
theorem dX7_drop_69 : decode cX7_drop 69 = .ok (.iastore, 1) := by decide +kernel
theorem dX7_drop_70 : decode cX7_drop 70 = .ok (.iinc 2 1, 3) := by decide +kernel
theorem dX7_drop_73 : decode cX7_drop 73 = .ok (.goto (-31), 3) := by decide +kernel
theorem dX7_drop_76 : decode cX7_drop 76 = .ok (.aload_n 0, 1) := by decide +kernel
theorem dX7_drop_77 : decode cX7_drop 77 = .ok (.invokevirtual 39, 3) := by decide +kernel
theorem dX7_drop_80 : decode cX7_drop 80 = .ok (.ireturn, 1) := by decide +kernel
theorem dX7_setTray_0 : decode cX7_setTray 0 = .ok (.aload_n 0, 1) := by decide +kernel
theorem dX7_setTray_1 : decode cX7_setTray 1 = .ok (.iload_n 1, 1) := by decide +kernel
theorem dX7_setTray_2 : decode cX7_setTray 2 = .ok (.invokevirtual 94, 3) := by decide +kernel
theorem dX7_setTray_5 : decode cX7_setTray 5 = .ok (.ifCond .eq 30, 3) := by decide +kernel
theorem dX7_setTray_8 : decode cX7_setTray 8 = .ok (.iload_n 2, 1) := by decide +kernel
theorem dX7_setTray_9 : decode cX7_setTray 9 = .ok (.iconst 0, 1) := by decide +kernel
theorem dX7_setTray_10 : decode cX7_setTray 10 = .ok (.iconst 1, 1) := by decide +kernel
theorem dX7_setTray_11 : decode cX7_setTray 11 = .ok (.invokestatic 43, 3) := by decide +kernel
theorem dX7_setTray_14 : decode cX7_setTray 14 = .ok (.ifCond .eq 21, 3) := by decide +kernel
theorem dX7_setTray_17 : decode cX7_setTray 17 = .ok (.iload_n 3, 1) := by decide +kernel
theorem dX7_setTray_18 : decode cX7_setTray 18 = .ok (.iconst 0, 1) := by decide +kernel
theorem dX7_setTray_19 : decode cX7_setTray 19 = .ok (.iload_n 2, 1) := by decide +kernel
theorem dX7_setTray_20 : decode cX7_setTray 20 = .ok (.ifCond .ne 8, 3) := by decide +kernel
theorem dX7_setTray_23 : decode cX7_setTray 23 = .ok (.bipush 9, 2) := by decide +kernel
theorem dX7_setTray_25 : decode cX7_setTray 25 = .ok (.goto 4, 3) := by decide +kernel
theorem dX7_setTray_28 : decode cX7_setTray 28 = .ok (.iconst 1, 1) := by decide +kernel
theorem dX7_setTray_29 : decode cX7_setTray 29 = .ok (.invokestatic 43, 3) := by decide +kernel
theorem dX7_setTray_32 : decode cX7_setTray 32 = .ok (.ifCond .ne 5, 3) := by decide +kernel
theorem dX7_setTray_35 : decode cX7_setTray 35 = .ok (.iconst (-1), 1) := by decide +kernel
theorem dX7_setTray_36 : decode cX7_setTray 36 = .ok (.ireturn, 1) := by decide +kernel
theorem dX7_setTray_37 : decode cX7_setTray 37 = .ok (.iload_n 2, 1) := by decide +kernel
theorem dX7_setTray_38 : decode cX7_setTray 38 = .ok (.iconst 1, 1) := by decide +kernel
theorem dX7_setTray_39 : decode cX7_setTray 39 = .ok (.if_icmp .ne 14, 3) := by decide +kernel
theorem dX7_setTray_42 : decode cX7_setTray 42 = .ok (.aload_n 0, 1) := by decide +kernel
theorem dX7_setTray_43 : decode cX7_setTray 43 = .ok (.iload_n 1, 1) := by decide +kernel
theorem dX7_setTray_44 : decode cX7_setTray 44 = .ok (.invokevirtual 71, 3) := by decide +kernel
theorem dX7_setTray_47 : decode cX7_setTray 47 = .ok (.ifCond .eq 6, 3) := by decide +kernel
theorem dX7_setTray_50 : decode cX7_setTray 50 = .ok (.bipush (-2), 2) := by decide +kernel
theorem dX7_setTray_52 : decode cX7_setTray 52 = .ok (.ireturn, 1) := by decide +kernel
theorem dX7_setTray_53 : decode cX7_setTray 53 = .ok (.aload_n 0, 1) := by decide +kernel
theorem dX7_setTray_54 : decode cX7_setTray 54 = .ok (.invokevirtual 104, 3) := by decide +kernel
theorem dX7_setTray_57 : decode cX7_setTray 57 = .ok (.aload_n 0, 1) := by decide +kernel
theorem dX7_setTray_58 : decode cX7_setTray 58 = .ok (.iload_n 1, 1) := by decide +kernel
theorem dX7_setTray_59 : decode cX7_setTray 59 = .ok (.iconst 3, 1) := by decide +kernel
theorem dX7_setTray_60 : decode cX7_setTray 60 = .ok (.iload_n 2, 1) := by decide +kernel
theorem dX7_setTray_61 : decode cX7_setTray 61 = .ok (.iadd, 1) := by decide +kernel
theorem dX7_setTray_62 : decode cX7_setTray 62 = .ok (.invokevirtual 47, 3) := by decide +kernel
theorem dX7_setTray_65 : decode cX7_setTray 65 = .ok (.istore 4, 2) := by decide +kernel
theorem dX7_setTray_67 : decode cX7_setTray 67 = .ok (.aload_n 0, 1) := by decide +kernel
theorem dX7_setTray_68 : decode cX7_setTray 68 = .ok (.iload_n 1, 1) := by decide +kernel
theorem dX7_setTray_69 : decode cX7_setTray 69 = .ok (.iconst 3, 1) := by decide +kernel
theorem dX7_setTray_70 : decode cX7_setTray 70 = .ok (.iload_n 2, 1) := by decide +kernel
theorem dX7_setTray_71 : decode cX7_setTray 71 = .ok (.iadd, 1) := by decide +kernel
theorem dX7_setTray_72 : decode cX7_setTray 72 = .ok (.iload_n 3, 1) := by decide +kernel
theorem dX7_setTray_73 : decode cX7_setTray 73 = .ok (.invokevirtual 63, 3) := by decide +kernel
theorem dX7_setTray_76 : decode cX7_setTray 76 = .ok (.iload 4, 2) := by decide +kernel
theorem dX7_setTray_78 : decode cX7_setTray 78 = .ok (.ireturn, 1) := by decide +kernel
theorem dX7_takeOut_0 : decode cX7_takeOut 0 = .ok (.aload_n 0, 1) := by decide +kernel
theorem dX7_takeOut_1 : decode cX7_takeOut 1 = .ok (.iload_n 1, 1) := by decide +kernel
theorem dX7_takeOut_2 : decode cX7_takeOut 2 = .ok (.invokevirtual 94, 3) := by decide +kernel
theorem dX7_takeOut_5 : decode cX7_takeOut 5 = .ok (.ifCond .ne 5, 3) := by decide +kernel
theorem dX7_takeOut_8 : decode cX7_takeOut 8 = .ok (.iconst (-1), 1) := by decide +kernel
theorem dX7_takeOut_9 : decode cX7_takeOut 9 = .ok (.ireturn, 1) := by decide +kernel
theorem dX7_takeOut_10 : decode cX7_takeOut 10 = .ok (.aload_n 0, 1) := by decide +kernel
theorem dX7_takeOut_11 : decode cX7_takeOut 11 = .ok (.iload_n 1, 1) := by decide +kernel
theorem dX7_takeOut_12 : decode cX7_takeOut 12 = .ok (.invokevirtual 71, 3) := by decide +kernel
theorem dX7_takeOut_15 : decode cX7_takeOut 15 = .ok (.ifCond .eq 11, 3) := by decide +kernel
theorem dX7_takeOut_18 : decode cX7_takeOut 18 = .ok (.aload_n 0, 1) := by decide +kernel
theorem dX7_takeOut_19 : decode cX7_takeOut 19 = .ok (.iload_n 1, 1) := by decide +kernel
theorem dX7_takeOut_20 : decode cX7_takeOut 20 = .ok (.invokevirtual 118, 3) := by decide +kernel
theorem dX7_takeOut_23 : decode cX7_takeOut 23 = .ok (.ifCond .eq 6, 3) := by decide +kernel
theorem dX7_takeOut_26 : decode cX7_takeOut 26 = .ok (.bipush (-2), 2) := by decide +kernel
theorem dX7_takeOut_28 : decode cX7_takeOut 28 = .ok (.ireturn, 1) := by decide +kernel
theorem dX7_takeOut_29 : decode cX7_takeOut 29 = .ok (.aload_n 0, 1) := by decide +kernel
theorem dX7_takeOut_30 : decode cX7_takeOut 30 = .ok (.invokevirtual 104, 3) := by decide +kernel
theorem dX7_takeOut_33 : decode cX7_takeOut 33 = .ok (.aload_n 0, 1) := by decide +kernel
theorem dX7_takeOut_34 : decode cX7_takeOut 34 = .ok (.iload_n 1, 1) := by decide +kernel
theorem dX7_takeOut_35 : decode cX7_takeOut 35 = .ok (.bipush 9, 2) := by decide +kernel
theorem dX7_takeOut_37 : decode cX7_takeOut 37 = .ok (.invokevirtual 47, 3) := by decide +kernel
theorem dX7_takeOut_40 : decode cX7_takeOut 40 = .ok (.istore_n 2, 1) := by decide +kernel
theorem dX7_takeOut_41 : decode cX7_takeOut 41 = .ok (.aload_n 0, 1) := by decide +kernel
theorem dX7_takeOut_42 : decode cX7_takeOut 42 = .ok (.iload_n 1, 1) := by decide +kernel
theorem dX7_takeOut_43 : decode cX7_takeOut 43 = .ok (.invokevirtual 67, 3) := by decide +kernel
theorem dX7_takeOut_46 : decode cX7_takeOut 46 = .ok (.iload_n 2, 1) := by decide +kernel
theorem dX7_takeOut_47 : decode cX7_takeOut 47 = .ok (.ireturn, 1) := by decide +kernel
theorem dX7_empty_0 : decode cX7_empty 0 = .ok (.aload_n 0, 1) := by decide +kernel
theorem dX7_empty_1 : decode cX7_empty 1 = .ok (.invokevirtual 104, 3) := by decide +kernel
theorem dX7_empty_4 : decode cX7_empty 4 = .ok (.aload_n 0, 1) := by decide +kernel
theorem dX7_empty_5 : decode cX7_empty 5 = .ok (.invokevirtual 169, 3) := by decide +kernel
theorem dX7_empty_8 : decode cX7_empty 8 = .ok (.istore_n 1, 1) := by decide +kernel
theorem dX7_empty_9 : decode cX7_empty 9 = .ok (.aload_n 0, 1) := by decide +kernel
theorem dX7_empty_10 : decode cX7_empty 10 = .ok (.invokevirtual 172, 3) := by decide +kernel
theorem dX7_empty_13 : decode cX7_empty 13 = .ok (.iload_n 1, 1) := by decide +kernel
theorem dX7_empty_14 : decode cX7_empty 14 = .ok (.ireturn, 1) := by decide +kernel
theorem dX7_tray_0 : decode cX7_tray 0 = .ok (.aload_n 0, 1) := by decide +kernel
theorem dX7_tray_1 : decode cX7_tray 1 = .ok (.iload_n 1, 1) := by decide +kernel
theorem dX7_tray_2 : decode cX7_tray 2 = .ok (.invokevirtual 94, 3) := by decide +kernel
theorem dX7_tray_5 : decode cX7_tray 5 = .ok (.ifCond .eq 13, 3) := by decide +kernel
theorem dX7_tray_8 : decode cX7_tray 8 = .ok (.iload_n 2, 1) := by decide +kernel
theorem dX7_tray_9 : decode cX7_tray 9 = .ok (.iconst 0, 1) := by decide +kernel
theorem dX7_tray_10 : decode cX7_tray 10 = .ok (.bipush 15, 2) := by decide +kernel
theorem dX7_tray_12 : decode cX7_tray 12 = .ok (.invokestatic 43, 3) := by decide +kernel
theorem dX7_tray_15 : decode cX7_tray 15 = .ok (.ifCond .ne 5, 3) := by decide +kernel
theorem dX7_tray_18 : decode cX7_tray 18 = .ok (.iconst (-1), 1) := by decide +kernel
theorem dX7_tray_19 : decode cX7_tray 19 = .ok (.ireturn, 1) := by decide +kernel
theorem dX7_tray_20 : decode cX7_tray 20 = .ok (.iload_n 2, 1) := by decide +kernel
theorem dX7_tray_21 : decode cX7_tray 21 = .ok (.bipush 7, 2) := by decide +kernel
theorem dX7_tray_23 : decode cX7_tray 23 = .ok (.if_icmp .ge 10, 3) := by decide +kernel
theorem dX7_tray_26 : decode cX7_tray 26 = .ok (.aload_n 0, 1) := by decide +kernel
theorem dX7_tray_27 : decode cX7_tray 27 = .ok (.iload_n 1, 1) := by decide +kernel
theorem dX7_tray_28 : decode cX7_tray 28 = .ok (.iload_n 2, 1) := by decide +kernel
theorem dX7_tray_29 : decode cX7_tray 29 = .ok (.invokevirtual 47, 3) := by decide +kernel
theorem dX7_tray_32 : decode cX7_tray 32 = .ok (.ireturn, 1) := by decide +kernel
theorem dX7_tray_33 : decode cX7_tray 33 = .ok (.aload_n 0, 1) := by decide +kernel
theorem dX7_tray_34 : decode cX7_tray 34 = .ok (.iload_n 1, 1) := by decide +kernel
theorem dX7_tray_35 : decode cX7_tray 35 = .ok (.invokevirtual 71, 3) := by decide +kernel
theorem dX7_tray_38 : decode cX7_tray 38 = .ok (.ifCond .ne 6, 3) := by decide +kernel
theorem dX7_tray_41 : decode cX7_tray 41 = .ok (.bipush (-9), 2) := by decide +kernel
theorem dX7_tray_43 : decode cX7_tray 43 = .ok (.ireturn, 1) := by decide +kernel
theorem dX7_tray_44 : decode cX7_tray 44 = .ok (.iload_n 2, 1) := by decide +kernel
theorem dX7_tray_45 : decode cX7_tray 45 = .ok (.tableswitch 92 7 14 #[47, 47, 47, 54, 60, 66, 72, 86], 47) := by decide +kernel
theorem dX7_tray_92 : decode cX7_tray 92 = .ok (.aload_n 0, 1) := by decide +kernel
theorem dX7_tray_93 : decode cX7_tray 93 = .ok (.iload_n 1, 1) := by decide +kernel
theorem dX7_tray_94 : decode cX7_tray 94 = .ok (.iload_n 2, 1) := by decide +kernel
theorem dX7_tray_95 : decode cX7_tray 95 = .ok (.invokevirtual 47, 3) := by decide +kernel
theorem dX7_tray_98 : decode cX7_tray 98 = .ok (.ireturn, 1) := by decide +kernel
theorem dX7_tray_99 : decode cX7_tray 99 = .ok (.aload_n 0, 1) := by decide +kernel
theorem dX7_tray_100 : decode cX7_tray 100 = .ok (.iload_n 1, 1) := by decide +kernel
theorem dX7_tray_101 : decode cX7_tray 101 = .ok (.invokevirtual 78, 3) := by decide +kernel
theorem dX7_tray_104 : decode cX7_tray 104 = .ok (.ireturn, 1) := by decide +kernel
theorem dX7_tray_105 : decode cX7_tray 105 = .ok (.aload_n 0, 1) := by decide +kernel
theorem dX7_tray_106 : decode cX7_tray 106 = .ok (.iload_n 1, 1) := by decide +kernel
theorem dX7_tray_107 : decode cX7_tray 107 = .ok (.invokevirtual 124, 3) := by decide +kernel
theorem dX7_tray_110 : decode cX7_tray 110 = .ok (.ireturn, 1) := by decide +kernel
theorem dX7_tray_111 : decode cX7_tray 111 = .ok (.aload_n 0, 1) := by decide +kernel
theorem dX7_tray_112 : decode cX7_tray 112 = .ok (.iload_n 1, 1) := by decide +kernel
theorem dX7_tray_113 : decode cX7_tray 113 = .ok (.invokevirtual 121, 3) := by decide +kernel
theorem dX7_tray_116 : decode cX7_tray 116 = .ok (.ireturn, 1) := by decide +kernel
theorem dX7_tray_117 : decode cX7_tray 117 = .ok (.aload_n 0, 1) := by decide +kernel
theorem dX7_tray_118 : decode cX7_tray 118 = .ok (.iload_n 1, 1) := by decide +kernel
theorem dX7_tray_119 : decode cX7_tray 119 = .ok (.invokevirtual 118, 3) := by decide +kernel
theorem dX7_tray_122 : decode cX7_tray 122 = .ok (.ifCond .ne 7, 3) := by decide +kernel
theorem dX7_tray_125 : decode cX7_tray 125 = .ok (.iconst 1, 1) := by decide +kernel
theorem dX7_tray_126 : decode cX7_tray 126 = .ok (.goto 4, 3) := by decide +kernel
theorem dX7_tray_129 : decode cX7_tray 129 = .ok (.iconst 0, 1) := by decide +kernel
theorem dX7_tray_130 : decode cX7_tray 130 = .ok (.ireturn, 1) := by decide +kernel
theorem dX7_tray_131 : decode cX7_tray 131 = .ok (.aload_n 0, 1) := by decide +kernel
theorem dX7_tray_132 : decode cX7_tray 132 = .ok (.iload_n 1, 1) := by decide +kernel
theorem dX7_tray_133 : decode cX7_tray 133 = .ok (.invokevirtual 118, 3) := by decide +kernel
theorem dX7_tray_136 : decode cX7_tray 136 = .ok (.ireturn, 1) := by decide +kernel
theorem dX7_tray_137 : decode cX7_tray 137 = .ok (.aload_n 0, 1) := by decide +kernel
theorem dX7_tray_138 : decode cX7_tray 138 = .ok (.iload_n 1, 1) := by decide +kernel
theorem dX7_tray_139 : decode cX7_tray 139 = .ok (.invokevirtual 175, 3) := by decide +kernel
theorem dX7_tray_142 : decode cX7_tray 142 = .ok (.ireturn, 1) := by decide +kernel
theorem dX7_seen_0 : decode cX7_seen 0 = .ok (.iload_n 1, 1) := by decide +kernel
theorem dX7_seen_1 : decode cX7_seen 1 = .ok (.iconst 0, 1) := by decide +kernel
theorem dX7_seen_2 : decode cX7_seen 2 = .ok (.aload_n 0, 1) := by decide +kernel
theorem dX7_seen_3 : decode cX7_seen 3 = .ok (.getfield 7, 3) := by decide +kernel
theorem dX7_seen_6 : decode cX7_seen 6 = .ok (.iconst 0, 1) := by decide +kernel
theorem dX7_seen_7 : decode cX7_seen 7 = .ok (.iaload, 1) := by decide +kernel
theorem dX7_seen_8 : decode cX7_seen 8 = .ok (.iconst 1, 1) := by decide +kernel
theorem dX7_seen_9 : decode cX7_seen 9 = .ok (.isub, 1) := by decide +kernel
theorem dX7_seen_10 : decode cX7_seen 10 = .ok (.invokestatic 43, 3) := by decide +kernel
theorem dX7_seen_13 : decode cX7_seen 13 = .ok (.ifCond .eq 19, 3) := by decide +kernel
theorem dX7_seen_16 : decode cX7_seen 16 = .ok (.iload_n 2, 1) := by decide +kernel
theorem dX7_seen_17 : decode cX7_seen 17 = .ok (.iconst 0, 1) := by decide +kernel
theorem dX7_seen_18 : decode cX7_seen 18 = .ok (.aload_n 0, 1) := by decide +kernel
theorem dX7_seen_19 : decode cX7_seen 19 = .ok (.getfield 7, 3) := by decide +kernel
theorem dX7_seen_22 : decode cX7_seen 22 = .ok (.iconst 1, 1) := by decide +kernel
theorem dX7_seen_23 : decode cX7_seen 23 = .ok (.iaload, 1) := by decide +kernel
theorem dX7_seen_24 : decode cX7_seen 24 = .ok (.iconst 1, 1) := by decide +kernel
theorem dX7_seen_25 : decode cX7_seen 25 = .ok (.isub, 1) := by decide +kernel
theorem dX7_seen_26 : decode cX7_seen 26 = .ok (.invokestatic 43, 3) := by decide +kernel
theorem dX7_seen_29 : decode cX7_seen 29 = .ok (.ifCond .ne 5, 3) := by decide +kernel
theorem dX7_seen_32 : decode cX7_seen 32 = .ok (.iconst (-1), 1) := by decide +kernel
theorem dX7_seen_33 : decode cX7_seen 33 = .ok (.ireturn, 1) := by decide +kernel
theorem dX7_seen_34 : decode cX7_seen 34 = .ok (.bipush (-9), 2) := by decide +kernel
theorem dX7_seen_36 : decode cX7_seen 36 = .ok (.istore 4, 2) := by decide +kernel
theorem dX7_seen_38 : decode cX7_seen 38 = .ok (.iconst 0, 1) := by decide +kernel
theorem dX7_seen_39 : decode cX7_seen 39 = .ok (.istore 5, 2) := by decide +kernel
theorem dX7_seen_41 : decode cX7_seen 41 = .ok (.iload 5, 2) := by decide +kernel
theorem dX7_seen_43 : decode cX7_seen 43 = .ok (.aload_n 0, 1) := by decide +kernel
theorem dX7_seen_44 : decode cX7_seen 44 = .ok (.invokevirtual 39, 3) := by decide +kernel
theorem dX7_seen_47 : decode cX7_seen 47 = .ok (.if_icmp .ge 72, 3) := by decide +kernel
theorem dX7_seen_50 : decode cX7_seen 50 = .ok (.aload_n 0, 1) := by decide +kernel
theorem dX7_seen_51 : decode cX7_seen 51 = .ok (.iload 5, 2) := by decide +kernel
theorem dX7_seen_53 : decode cX7_seen 53 = .ok (.invokevirtual 71, 3) := by decide +kernel
theorem dX7_seen_56 : decode cX7_seen 56 = .ok (.ifCond .eq 18, 3) := by decide +kernel
theorem dX7_seen_59 : decode cX7_seen 59 = .ok (.aload_n 0, 1) := by decide +kernel
theorem dX7_seen_60 : decode cX7_seen 60 = .ok (.iload 5, 2) := by decide +kernel
end
section
theorem dX7_seen_62 : decode cX7_seen 62 = .ok (.iload_n 1, 1) := by decide +kernel
theorem dX7_seen_63 : decode cX7_seen 63 = .ok (.iload_n 2, 1) := by decide +kernel
theorem dX7_seen_64 : decode cX7_seen 64 = .ok (.invokevirtual 75, 3) := by decide +kernel
theorem dX7_seen_67 : decode cX7_seen 67 = .ok (.ifCond .eq 7, 3) := by decide +kernel
theorem dX7_seen_70 : decode cX7_seen 70 = .ok (.iconst 1, 1) := by decide +kernel
theorem dX7_seen_71 : decode cX7_seen 71 = .ok (.goto 4, 3) := by decide +kernel
theorem dX7_seen_74 : decode cX7_seen 74 = .ok (.iconst 0, 1) := by decide +kernel
theorem dX7_seen_75 : decode cX7_seen 75 = .ok (.istore 6, 2) := by decide +kernel
theorem dX7_seen_77 : decode cX7_seen 77 = .ok (.iload 6, 2) := by decide +kernel
theorem dX7_seen_79 : decode cX7_seen 79 = .ok (.ifCond .eq 30, 3) := by decide +kernel
theorem dX7_seen_82 : decode cX7_seen 82 = .ok (.iload 4, 2) := by decide +kernel
theorem dX7_seen_84 : decode cX7_seen 84 = .ok (.bipush (-9), 2) := by decide +kernel
theorem dX7_seen_86 : decode cX7_seen 86 = .ok (.if_icmp .eq 18, 3) := by decide +kernel
theorem dX7_seen_89 : decode cX7_seen 89 = .ok (.aload_n 0, 1) := by decide +kernel
theorem dX7_seen_90 : decode cX7_seen 90 = .ok (.iload 5, 2) := by decide +kernel
theorem dX7_seen_92 : decode cX7_seen 92 = .ok (.invokevirtual 78, 3) := by decide +kernel
theorem dX7_seen_95 : decode cX7_seen 95 = .ok (.aload_n 0, 1) := by decide +kernel
theorem dX7_seen_96 : decode cX7_seen 96 = .ok (.iload 4, 2) := by decide +kernel
theorem dX7_seen_98 : decode cX7_seen 98 = .ok (.invokevirtual 78, 3) := by decide +kernel
theorem dX7_seen_101 : decode cX7_seen 101 = .ok (.if_icmp .le 8, 3) := by decide +kernel
theorem dX7_seen_104 : decode cX7_seen 104 = .ok (.iload 5, 2) := by decide +kernel
theorem dX7_seen_106 : decode cX7_seen 106 = .ok (.goto 5, 3) := by decide +kernel
theorem dX7_seen_109 : decode cX7_seen 109 = .ok (.iload 4, 2) := by decide +kernel
theorem dX7_seen_111 : decode cX7_seen 111 = .ok (.istore 4, 2) := by decide +kernel
theorem dX7_seen_113 : decode cX7_seen 113 = .ok (.iinc 5 1, 3) := by decide +kernel
theorem dX7_seen_116 : decode cX7_seen 116 = .ok (.goto (-75), 3) := by decide +kernel
theorem dX7_seen_119 : decode cX7_seen 119 = .ok (.iload_n 3, 1) := by decide +kernel
theorem dX7_seen_120 : decode cX7_seen 120 = .ok (.ifCond .ne 8, 3) := by decide +kernel
theorem dX7_seen_123 : decode cX7_seen 123 = .ok (.iload 4, 2) := by decide +kernel
theorem dX7_seen_125 : decode cX7_seen 125 = .ok (.goto 20, 3) := by decide +kernel
theorem dX7_seen_128 : decode cX7_seen 128 = .ok (.iload 4, 2) := by decide +kernel
theorem dX7_seen_130 : decode cX7_seen 130 = .ok (.bipush (-9), 2) := by decide +kernel
theorem dX7_seen_132 : decode cX7_seen 132 = .ok (.if_icmp .ne 7, 3) := by decide +kernel
theorem dX7_seen_135 : decode cX7_seen 135 = .ok (.iconst 0, 1) := by decide +kernel
theorem dX7_seen_136 : decode cX7_seen 136 = .ok (.goto 9, 3) := by decide +kernel
theorem dX7_seen_139 : decode cX7_seen 139 = .ok (.aload_n 0, 1) := by decide +kernel
theorem dX7_seen_140 : decode cX7_seen 140 = .ok (.iload 4, 2) := by decide +kernel
theorem dX7_seen_142 : decode cX7_seen 142 = .ok (.invokevirtual 78, 3) := by decide +kernel
theorem dX7_seen_145 : decode cX7_seen 145 = .ok (.ireturn, 1) := by decide +kernel
theorem dX7_finds_0 : decode cX7_finds 0 = .ok (.aload_n 0, 1) := by decide +kernel
theorem dX7_finds_1 : decode cX7_finds 1 = .ok (.invokevirtual 91, 3) := by decide +kernel
theorem dX7_finds_4 : decode cX7_finds 4 = .ok (.aload_n 0, 1) := by decide +kernel
theorem dX7_finds_5 : decode cX7_finds 5 = .ok (.iconst 0, 1) := by decide +kernel
theorem dX7_finds_6 : decode cX7_finds 6 = .ok (.putfield 178, 3) := by decide +kernel
theorem dX7_finds_9 : decode cX7_finds 9 = .ok (.aload_n 0, 1) := by decide +kernel
theorem dX7_finds_10 : decode cX7_finds 10 = .ok (.bipush (-9), 2) := by decide +kernel
theorem dX7_finds_12 : decode cX7_finds 12 = .ok (.putfield 181, 3) := by decide +kernel
theorem dX7_finds_15 : decode cX7_finds 15 = .ok (.aload_n 0, 1) := by decide +kernel
theorem dX7_finds_16 : decode cX7_finds 16 = .ok (.iload_n 1, 1) := by decide +kernel
theorem dX7_finds_17 : decode cX7_finds 17 = .ok (.iconst 0, 1) := by decide +kernel
theorem dX7_finds_18 : decode cX7_finds 18 = .ok (.invokevirtual 47, 3) := by decide +kernel
theorem dX7_finds_21 : decode cX7_finds 21 = .ok (.aload_n 0, 1) := by decide +kernel
theorem dX7_finds_22 : decode cX7_finds 22 = .ok (.iload_n 1, 1) := by decide +kernel
theorem dX7_finds_23 : decode cX7_finds 23 = .ok (.iconst 1, 1) := by decide +kernel
theorem dX7_finds_24 : decode cX7_finds 24 = .ok (.invokevirtual 47, 3) := by decide +kernel
theorem dX7_finds_27 : decode cX7_finds 27 = .ok (.if_icmp .ne 7, 3) := by decide +kernel
theorem dX7_finds_30 : decode cX7_finds 30 = .ok (.iconst 1, 1) := by decide +kernel
theorem dX7_finds_31 : decode cX7_finds 31 = .ok (.goto 4, 3) := by decide +kernel
theorem dX7_finds_34 : decode cX7_finds 34 = .ok (.iconst 2, 1) := by decide +kernel
theorem dX7_finds_35 : decode cX7_finds 35 = .ok (.istore_n 2, 1) := by decide +kernel
theorem dX7_finds_36 : decode cX7_finds 36 = .ok (.iconst 0, 1) := by decide +kernel
theorem dX7_finds_37 : decode cX7_finds 37 = .ok (.istore_n 3, 1) := by decide +kernel
theorem dX7_finds_38 : decode cX7_finds 38 = .ok (.iload_n 3, 1) := by decide +kernel
theorem dX7_finds_39 : decode cX7_finds 39 = .ok (.aload_n 0, 1) := by decide +kernel
theorem dX7_finds_40 : decode cX7_finds 40 = .ok (.getfield 7, 3) := by decide +kernel
theorem dX7_finds_43 : decode cX7_finds 43 = .ok (.iconst 1, 1) := by decide +kernel
theorem dX7_finds_44 : decode cX7_finds 44 = .ok (.iaload, 1) := by decide +kernel
theorem dX7_finds_45 : decode cX7_finds 45 = .ok (.if_icmp .ge 151, 3) := by decide +kernel
theorem dX7_finds_48 : decode cX7_finds 48 = .ok (.iconst 0, 1) := by decide +kernel
theorem dX7_finds_49 : decode cX7_finds 49 = .ok (.istore 4, 2) := by decide +kernel
theorem dX7_finds_51 : decode cX7_finds 51 = .ok (.iload 4, 2) := by decide +kernel
theorem dX7_finds_53 : decode cX7_finds 53 = .ok (.aload_n 0, 1) := by decide +kernel
theorem dX7_finds_54 : decode cX7_finds 54 = .ok (.getfield 7, 3) := by decide +kernel
theorem dX7_finds_57 : decode cX7_finds 57 = .ok (.iconst 0, 1) := by decide +kernel
theorem dX7_finds_58 : decode cX7_finds 58 = .ok (.iaload, 1) := by decide +kernel
theorem dX7_finds_59 : decode cX7_finds 59 = .ok (.if_icmp .ge 131, 3) := by decide +kernel
theorem dX7_finds_62 : decode cX7_finds 62 = .ok (.iconst 0, 1) := by decide +kernel
theorem dX7_finds_63 : decode cX7_finds 63 = .ok (.istore 5, 2) := by decide +kernel
theorem dX7_finds_65 : decode cX7_finds 65 = .ok (.iload 5, 2) := by decide +kernel
theorem dX7_finds_67 : decode cX7_finds 67 = .ok (.iload_n 2, 1) := by decide +kernel
theorem dX7_finds_68 : decode cX7_finds 68 = .ok (.if_icmp .ge 116, 3) := by decide +kernel
theorem dX7_finds_71 : decode cX7_finds 71 = .ok (.aload_n 0, 1) := by decide +kernel
theorem dX7_finds_72 : decode cX7_finds 72 = .ok (.iload_n 1, 1) := by decide +kernel
theorem dX7_finds_73 : decode cX7_finds 73 = .ok (.iload 4, 2) := by decide +kernel
theorem dX7_finds_75 : decode cX7_finds 75 = .ok (.iload_n 3, 1) := by decide +kernel
theorem dX7_finds_76 : decode cX7_finds 76 = .ok (.iload 5, 2) := by decide +kernel
theorem dX7_finds_78 : decode cX7_finds 78 = .ok (.iconst 1, 1) := by decide +kernel
theorem dX7_finds_79 : decode cX7_finds 79 = .ok (.if_icmp .ne 7, 3) := by decide +kernel
theorem dX7_finds_82 : decode cX7_finds 82 = .ok (.iconst 1, 1) := by decide +kernel
theorem dX7_finds_83 : decode cX7_finds 83 = .ok (.goto 4, 3) := by decide +kernel
theorem dX7_finds_86 : decode cX7_finds 86 = .ok (.iconst 0, 1) := by decide +kernel
theorem dX7_finds_87 : decode cX7_finds 87 = .ok (.invokevirtual 97, 3) := by decide +kernel
theorem dX7_finds_90 : decode cX7_finds 90 = .ok (.ifCond .eq 88, 3) := by decide +kernel
theorem dX7_finds_93 : decode cX7_finds 93 = .ok (.aload_n 0, 1) := by decide +kernel
theorem dX7_finds_94 : decode cX7_finds 94 = .ok (.iload_n 1, 1) := by decide +kernel
theorem dX7_finds_95 : decode cX7_finds 95 = .ok (.iload 4, 2) := by decide +kernel
theorem dX7_finds_97 : decode cX7_finds 97 = .ok (.iload_n 3, 1) := by decide +kernel
theorem dX7_finds_98 : decode cX7_finds 98 = .ok (.iload 5, 2) := by decide +kernel
theorem dX7_finds_100 : decode cX7_finds 100 = .ok (.iconst 1, 1) := by decide +kernel
theorem dX7_finds_101 : decode cX7_finds 101 = .ok (.if_icmp .ne 7, 3) := by decide +kernel
theorem dX7_finds_104 : decode cX7_finds 104 = .ok (.iconst 1, 1) := by decide +kernel
theorem dX7_finds_105 : decode cX7_finds 105 = .ok (.goto 4, 3) := by decide +kernel
theorem dX7_finds_108 : decode cX7_finds 108 = .ok (.iconst 0, 1) := by decide +kernel
theorem dX7_finds_109 : decode cX7_finds 109 = .ok (.invokevirtual 101, 3) := by decide +kernel
theorem dX7_finds_112 : decode cX7_finds 112 = .ok (.ifCond .eq 66, 3) := by decide +kernel
theorem dX7_finds_115 : decode cX7_finds 115 = .ok (.aload_n 0, 1) := by decide +kernel
theorem dX7_finds_116 : decode cX7_finds 116 = .ok (.getfield 81, 3) := by decide +kernel
theorem dX7_finds_119 : decode cX7_finds 119 = .ok (.aload_n 0, 1) := by decide +kernel
theorem dX7_finds_120 : decode cX7_finds 120 = .ok (.iload_n 1, 1) := by decide +kernel
theorem dX7_finds_121 : decode cX7_finds 121 = .ok (.invokevirtual 51, 3) := by decide +kernel
theorem dX7_finds_124 : decode cX7_finds 124 = .ok (.iadd, 1) := by decide +kernel
theorem dX7_finds_125 : decode cX7_finds 125 = .ok (.istore 6, 2) := by decide +kernel
theorem dX7_finds_127 : decode cX7_finds 127 = .ok (.aload_n 0, 1) := by decide +kernel
theorem dX7_finds_128 : decode cX7_finds 128 = .ok (.dup, 1) := by decide +kernel
theorem dX7_finds_129 : decode cX7_finds 129 = .ok (.getfield 178, 3) := by decide +kernel
theorem dX7_finds_132 : decode cX7_finds 132 = .ok (.iconst 1, 1) := by decide +kernel
theorem dX7_finds_133 : decode cX7_finds 133 = .ok (.iadd, 1) := by decide +kernel
theorem dX7_finds_134 : decode cX7_finds 134 = .ok (.putfield 178, 3) := by decide +kernel
theorem dX7_finds_137 : decode cX7_finds 137 = .ok (.aload_n 0, 1) := by decide +kernel
theorem dX7_finds_138 : decode cX7_finds 138 = .ok (.getfield 181, 3) := by decide +kernel
theorem dX7_finds_141 : decode cX7_finds 141 = .ok (.bipush (-9), 2) := by decide +kernel
theorem dX7_finds_143 : decode cX7_finds 143 = .ok (.if_icmp .eq 12, 3) := by decide +kernel
theorem dX7_finds_146 : decode cX7_finds 146 = .ok (.iload 6, 2) := by decide +kernel
theorem dX7_finds_148 : decode cX7_finds 148 = .ok (.aload_n 0, 1) := by decide +kernel
theorem dX7_finds_149 : decode cX7_finds 149 = .ok (.getfield 181, 3) := by decide +kernel
theorem dX7_finds_152 : decode cX7_finds 152 = .ok (.if_icmp .ge 26, 3) := by decide +kernel
theorem dX7_finds_155 : decode cX7_finds 155 = .ok (.aload_n 0, 1) := by decide +kernel
theorem dX7_finds_156 : decode cX7_finds 156 = .ok (.iload 6, 2) := by decide +kernel
theorem dX7_finds_158 : decode cX7_finds 158 = .ok (.putfield 181, 3) := by decide +kernel
theorem dX7_finds_161 : decode cX7_finds 161 = .ok (.aload_n 0, 1) := by decide +kernel
theorem dX7_finds_162 : decode cX7_finds 162 = .ok (.iload 4, 2) := by decide +kernel
theorem dX7_finds_164 : decode cX7_finds 164 = .ok (.putfield 184, 3) := by decide +kernel
theorem dX7_finds_167 : decode cX7_finds 167 = .ok (.aload_n 0, 1) := by decide +kernel
theorem dX7_finds_168 : decode cX7_finds 168 = .ok (.iload_n 3, 1) := by decide +kernel
theorem dX7_finds_169 : decode cX7_finds 169 = .ok (.putfield 187, 3) := by decide +kernel
theorem dX7_finds_172 : decode cX7_finds 172 = .ok (.aload_n 0, 1) := by decide +kernel
theorem dX7_finds_173 : decode cX7_finds 173 = .ok (.iload 5, 2) := by decide +kernel
theorem dX7_finds_175 : decode cX7_finds 175 = .ok (.putfield 190, 3) := by decide +kernel
theorem dX7_finds_178 : decode cX7_finds 178 = .ok (.iinc 5 1, 3) := by decide +kernel
theorem dX7_finds_181 : decode cX7_finds 181 = .ok (.goto (-116), 3) := by decide +kernel
theorem dX7_finds_184 : decode cX7_finds 184 = .ok (.iinc 4 1, 3) := by decide +kernel
theorem dX7_finds_187 : decode cX7_finds 187 = .ok (.goto (-136), 3) := by decide +kernel
theorem dX7_finds_190 : decode cX7_finds 190 = .ok (.iinc 3 1, 3) := by decide +kernel
theorem dX7_finds_193 : decode cX7_finds 193 = .ok (.goto (-155), 3) := by decide +kernel
theorem dX7_finds_196 : decode cX7_finds 196 = .ok (.return_, 1) := by decide +kernel
theorem dX7_place_0 : decode cX7_place 0 = .ok (.aload_n 0, 1) := by decide +kernel
theorem dX7_place_1 : decode cX7_place 1 = .ok (.iload_n 1, 1) := by decide +kernel
theorem dX7_place_2 : decode cX7_place 2 = .ok (.invokevirtual 94, 3) := by decide +kernel
theorem dX7_place_5 : decode cX7_place 5 = .ok (.ifCond .eq 12, 3) := by decide +kernel
theorem dX7_place_8 : decode cX7_place 8 = .ok (.iload_n 2, 1) := by decide +kernel
theorem dX7_place_9 : decode cX7_place 9 = .ok (.iconst 0, 1) := by decide +kernel
theorem dX7_place_10 : decode cX7_place 10 = .ok (.iconst 3, 1) := by decide +kernel
theorem dX7_place_11 : decode cX7_place 11 = .ok (.invokestatic 43, 3) := by decide +kernel
theorem dX7_place_14 : decode cX7_place 14 = .ok (.ifCond .ne 5, 3) := by decide +kernel
theorem dX7_place_17 : decode cX7_place 17 = .ok (.iconst (-1), 1) := by decide +kernel
theorem dX7_place_18 : decode cX7_place 18 = .ok (.ireturn, 1) := by decide +kernel
theorem dX7_place_19 : decode cX7_place 19 = .ok (.aload_n 0, 1) := by decide +kernel
theorem dX7_place_20 : decode cX7_place 20 = .ok (.iload_n 1, 1) := by decide +kernel
theorem dX7_place_21 : decode cX7_place 21 = .ok (.invokevirtual 71, 3) := by decide +kernel
theorem dX7_place_24 : decode cX7_place 24 = .ok (.ifCond .eq 6, 3) := by decide +kernel
theorem dX7_place_27 : decode cX7_place 27 = .ok (.bipush (-2), 2) := by decide +kernel
theorem dX7_place_29 : decode cX7_place 29 = .ok (.ireturn, 1) := by decide +kernel
theorem dX7_place_30 : decode cX7_place 30 = .ok (.aload_n 0, 1) := by decide +kernel
theorem dX7_place_31 : decode cX7_place 31 = .ok (.iload_n 1, 1) := by decide +kernel
theorem dX7_place_32 : decode cX7_place 32 = .ok (.invokevirtual 193, 3) := by decide +kernel
theorem dX7_place_35 : decode cX7_place 35 = .ok (.aload_n 0, 1) := by decide +kernel
theorem dX7_place_36 : decode cX7_place 36 = .ok (.getfield 181, 3) := by decide +kernel
theorem dX7_place_39 : decode cX7_place 39 = .ok (.bipush (-9), 2) := by decide +kernel
theorem dX7_place_41 : decode cX7_place 41 = .ok (.if_icmp .ne 6, 3) := by decide +kernel
theorem dX7_place_44 : decode cX7_place 44 = .ok (.bipush (-9), 2) := by decide +kernel
theorem dX7_place_46 : decode cX7_place 46 = .ok (.ireturn, 1) := by decide +kernel
theorem dX7_place_47 : decode cX7_place 47 = .ok (.iload_n 2, 1) := by decide +kernel
theorem dX7_place_48 : decode cX7_place 48 = .ok (.ifCond .ne 10, 3) := by decide +kernel
theorem dX7_place_51 : decode cX7_place 51 = .ok (.aload_n 0, 1) := by decide +kernel
theorem dX7_place_52 : decode cX7_place 52 = .ok (.getfield 184, 3) := by decide +kernel
theorem dX7_place_55 : decode cX7_place 55 = .ok (.goto 31, 3) := by decide +kernel
theorem dX7_place_58 : decode cX7_place 58 = .ok (.iload_n 2, 1) := by decide +kernel
theorem dX7_place_59 : decode cX7_place 59 = .ok (.iconst 1, 1) := by decide +kernel
theorem dX7_place_60 : decode cX7_place 60 = .ok (.if_icmp .ne 10, 3) := by decide +kernel
theorem dX7_place_63 : decode cX7_place 63 = .ok (.aload_n 0, 1) := by decide +kernel
theorem dX7_place_64 : decode cX7_place 64 = .ok (.getfield 187, 3) := by decide +kernel
theorem dX7_place_67 : decode cX7_place 67 = .ok (.goto 19, 3) := by decide +kernel
theorem dX7_place_70 : decode cX7_place 70 = .ok (.iload_n 2, 1) := by decide +kernel
theorem dX7_place_71 : decode cX7_place 71 = .ok (.iconst 2, 1) := by decide +kernel
theorem dX7_place_72 : decode cX7_place 72 = .ok (.if_icmp .ne 10, 3) := by decide +kernel
theorem dX7_place_75 : decode cX7_place 75 = .ok (.aload_n 0, 1) := by decide +kernel
theorem dX7_place_76 : decode cX7_place 76 = .ok (.getfield 190, 3) := by decide +kernel
theorem dX7_place_79 : decode cX7_place 79 = .ok (.goto 7, 3) := by decide +kernel
theorem dX7_place_82 : decode cX7_place 82 = .ok (.aload_n 0, 1) := by decide +kernel
theorem dX7_place_83 : decode cX7_place 83 = .ok (.getfield 181, 3) := by decide +kernel
theorem dX7_place_86 : decode cX7_place 86 = .ok (.ireturn, 1) := by decide +kernel
theorem dX7_places_0 : decode cX7_places 0 = .ok (.aload_n 0, 1) := by decide +kernel
theorem dX7_places_1 : decode cX7_places 1 = .ok (.iload_n 1, 1) := by decide +kernel
theorem dX7_places_2 : decode cX7_places 2 = .ok (.invokevirtual 94, 3) := by decide +kernel
theorem dX7_places_5 : decode cX7_places 5 = .ok (.ifCond .ne 5, 3) := by decide +kernel
theorem dX7_places_8 : decode cX7_places 8 = .ok (.iconst (-1), 1) := by decide +kernel
theorem dX7_places_9 : decode cX7_places 9 = .ok (.ireturn, 1) := by decide +kernel
theorem dX7_places_10 : decode cX7_places 10 = .ok (.aload_n 0, 1) := by decide +kernel
theorem dX7_places_11 : decode cX7_places 11 = .ok (.iload_n 1, 1) := by decide +kernel
theorem dX7_places_12 : decode cX7_places 12 = .ok (.invokevirtual 71, 3) := by decide +kernel
theorem dX7_places_15 : decode cX7_places 15 = .ok (.ifCond .eq 6, 3) := by decide +kernel
theorem dX7_places_18 : decode cX7_places 18 = .ok (.bipush (-2), 2) := by decide +kernel
theorem dX7_places_20 : decode cX7_places 20 = .ok (.ireturn, 1) := by decide +kernel
theorem dX7_places_21 : decode cX7_places 21 = .ok (.aload_n 0, 1) := by decide +kernel
theorem dX7_places_22 : decode cX7_places 22 = .ok (.iload_n 1, 1) := by decide +kernel
theorem dX7_places_23 : decode cX7_places 23 = .ok (.invokevirtual 193, 3) := by decide +kernel
theorem dX7_places_26 : decode cX7_places 26 = .ok (.aload_n 0, 1) := by decide +kernel
theorem dX7_places_27 : decode cX7_places 27 = .ok (.getfield 178, 3) := by decide +kernel
theorem dX7_places_30 : decode cX7_places 30 = .ok (.ireturn, 1) := by decide +kernel
theorem dX7_isAhead_0 : decode cX7_isAhead 0 = .ok (.aload_n 0, 1) := by decide +kernel
theorem dX7_isAhead_1 : decode cX7_isAhead 1 = .ok (.iload_n 1, 1) := by decide +kernel
theorem dX7_isAhead_2 : decode cX7_isAhead 2 = .ok (.iconst 3, 1) := by decide +kernel
theorem dX7_isAhead_3 : decode cX7_isAhead 3 = .ok (.invokevirtual 47, 3) := by decide +kernel
theorem dX7_isAhead_6 : decode cX7_isAhead 6 = .ok (.aload_n 0, 1) := by decide +kernel
theorem dX7_isAhead_7 : decode cX7_isAhead 7 = .ok (.iload_n 2, 1) := by decide +kernel
theorem dX7_isAhead_8 : decode cX7_isAhead 8 = .ok (.iconst 3, 1) := by decide +kernel
theorem dX7_isAhead_9 : decode cX7_isAhead 9 = .ok (.invokevirtual 47, 3) := by decide +kernel
theorem dX7_isAhead_12 : decode cX7_isAhead 12 = .ok (.if_icmp .eq 24, 3) := by decide +kernel
theorem dX7_isAhead_15 : decode cX7_isAhead 15 = .ok (.aload_n 0, 1) := by decide +kernel
theorem dX7_isAhead_16 : decode cX7_isAhead 16 = .ok (.iload_n 1, 1) := by decide +kernel
theorem dX7_isAhead_17 : decode cX7_isAhead 17 = .ok (.iconst 3, 1) := by decide +kernel
theorem dX7_isAhead_18 : decode cX7_isAhead 18 = .ok (.invokevirtual 47, 3) := by decide +kernel
theorem dX7_isAhead_21 : decode cX7_isAhead 21 = .ok (.aload_n 0, 1) := by decide +kernel
theorem dX7_isAhead_22 : decode cX7_isAhead 22 = .ok (.iload_n 2, 1) := by decide +kernel
theorem dX7_isAhead_23 : decode cX7_isAhead 23 = .ok (.iconst 3, 1) := by decide +kernel
theorem dX7_isAhead_24 : decode cX7_isAhead 24 = .ok (.invokevirtual 47, 3) := by decide +kernel
theorem dX7_isAhead_27 : decode cX7_isAhead 27 = .ok (.if_icmp .le 7, 3) := by decide +kernel
theorem dX7_isAhead_30 : decode cX7_isAhead 30 = .ok (.iconst 1, 1) := by decide +kernel
theorem dX7_isAhead_31 : decode cX7_isAhead 31 = .ok (.goto 4, 3) := by decide +kernel
theorem dX7_isAhead_34 : decode cX7_isAhead 34 = .ok (.iconst 0, 1) := by decide +kernel
theorem dX7_isAhead_35 : decode cX7_isAhead 35 = .ok (.ireturn, 1) := by decide +kernel
theorem dX7_isAhead_36 : decode cX7_isAhead 36 = .ok (.aload_n 0, 1) := by decide +kernel
theorem dX7_isAhead_37 : decode cX7_isAhead 37 = .ok (.iload_n 1, 1) := by decide +kernel
theorem dX7_isAhead_38 : decode cX7_isAhead 38 = .ok (.iconst 0, 1) := by decide +kernel
theorem dX7_isAhead_39 : decode cX7_isAhead 39 = .ok (.invokevirtual 47, 3) := by decide +kernel
theorem dX7_isAhead_42 : decode cX7_isAhead 42 = .ok (.aload_n 0, 1) := by decide +kernel
theorem dX7_isAhead_43 : decode cX7_isAhead 43 = .ok (.iload_n 1, 1) := by decide +kernel
theorem dX7_isAhead_44 : decode cX7_isAhead 44 = .ok (.iconst 1, 1) := by decide +kernel
theorem dX7_isAhead_45 : decode cX7_isAhead 45 = .ok (.invokevirtual 47, 3) := by decide +kernel
theorem dX7_isAhead_48 : decode cX7_isAhead 48 = .ok (.imul, 1) := by decide +kernel
theorem dX7_isAhead_49 : decode cX7_isAhead 49 = .ok (.istore_n 3, 1) := by decide +kernel
theorem dX7_isAhead_50 : decode cX7_isAhead 50 = .ok (.aload_n 0, 1) := by decide +kernel
theorem dX7_isAhead_51 : decode cX7_isAhead 51 = .ok (.iload_n 2, 1) := by decide +kernel
theorem dX7_isAhead_52 : decode cX7_isAhead 52 = .ok (.iconst 0, 1) := by decide +kernel
theorem dX7_isAhead_53 : decode cX7_isAhead 53 = .ok (.invokevirtual 47, 3) := by decide +kernel
theorem dX7_isAhead_56 : decode cX7_isAhead 56 = .ok (.aload_n 0, 1) := by decide +kernel
theorem dX7_isAhead_57 : decode cX7_isAhead 57 = .ok (.iload_n 2, 1) := by decide +kernel
theorem dX7_isAhead_58 : decode cX7_isAhead 58 = .ok (.iconst 1, 1) := by decide +kernel
theorem dX7_isAhead_59 : decode cX7_isAhead 59 = .ok (.invokevirtual 47, 3) := by decide +kernel
theorem dX7_isAhead_62 : decode cX7_isAhead 62 = .ok (.imul, 1) := by decide +kernel
theorem dX7_isAhead_63 : decode cX7_isAhead 63 = .ok (.istore 4, 2) := by decide +kernel
theorem dX7_isAhead_65 : decode cX7_isAhead 65 = .ok (.iload_n 3, 1) := by decide +kernel
theorem dX7_isAhead_66 : decode cX7_isAhead 66 = .ok (.iload 4, 2) := by decide +kernel
theorem dX7_isAhead_68 : decode cX7_isAhead 68 = .ok (.if_icmp .eq 17, 3) := by decide +kernel
theorem dX7_isAhead_71 : decode cX7_isAhead 71 = .ok (.iload_n 3, 1) := by decide +kernel
theorem dX7_isAhead_72 : decode cX7_isAhead 72 = .ok (.iload 4, 2) := by decide +kernel
theorem dX7_isAhead_74 : decode cX7_isAhead 74 = .ok (.if_icmp .le 7, 3) := by decide +kernel
theorem dX7_isAhead_77 : decode cX7_isAhead 77 = .ok (.iconst 1, 1) := by decide +kernel
theorem dX7_isAhead_78 : decode cX7_isAhead 78 = .ok (.goto 17, 3) := by decide +kernel
theorem dX7_isAhead_81 : decode cX7_isAhead 81 = .ok (.iconst 0, 1) := by decide +kernel
theorem dX7_isAhead_82 : decode cX7_isAhead 82 = .ok (.goto 13, 3) := by decide +kernel
theorem dX7_isAhead_85 : decode cX7_isAhead 85 = .ok (.iload_n 1, 1) := by decide +kernel
theorem dX7_isAhead_86 : decode cX7_isAhead 86 = .ok (.iload_n 2, 1) := by decide +kernel
theorem dX7_isAhead_87 : decode cX7_isAhead 87 = .ok (.if_icmp .ge 7, 3) := by decide +kernel
theorem dX7_isAhead_90 : decode cX7_isAhead 90 = .ok (.iconst 1, 1) := by decide +kernel
theorem dX7_isAhead_91 : decode cX7_isAhead 91 = .ok (.goto 4, 3) := by decide +kernel
theorem dX7_isAhead_94 : decode cX7_isAhead 94 = .ok (.iconst 0, 1) := by decide +kernel
theorem dX7_isAhead_95 : decode cX7_isAhead 95 = .ok (.ireturn, 1) := by decide +kernel
theorem dX7_ordersUsually_0 : decode cX7_ordersUsually 0 = .ok (.iconst 0, 1) := by decide +kernel
theorem dX7_ordersUsually_1 : decode cX7_ordersUsually 1 = .ok (.istore_n 1, 1) := by decide +kernel
theorem dX7_ordersUsually_2 : decode cX7_ordersUsually 2 = .ok (.iload_n 1, 1) := by decide +kernel
theorem dX7_ordersUsually_3 : decode cX7_ordersUsually 3 = .ok (.aload_n 0, 1) := by decide +kernel
theorem dX7_ordersUsually_4 : decode cX7_ordersUsually 4 = .ok (.invokevirtual 39, 3) := by decide +kernel
theorem dX7_ordersUsually_7 : decode cX7_ordersUsually 7 = .ok (.if_icmp .ge 58, 3) := by decide +kernel
theorem dX7_ordersUsually_10 : decode cX7_ordersUsually 10 = .ok (.iload_n 1, 1) := by decide +kernel
theorem dX7_ordersUsually_11 : decode cX7_ordersUsually 11 = .ok (.istore_n 2, 1) := by decide +kernel
theorem dX7_ordersUsually_12 : decode cX7_ordersUsually 12 = .ok (.iload_n 2, 1) := by decide +kernel
theorem dX7_ordersUsually_13 : decode cX7_ordersUsually 13 = .ok (.ifCond .le 39, 3) := by decide +kernel
theorem dX7_ordersUsually_16 : decode cX7_ordersUsually 16 = .ok (.aload_n 0, 1) := by decide +kernel
theorem dX7_ordersUsually_17 : decode cX7_ordersUsually 17 = .ok (.iload_n 1, 1) := by decide +kernel
theorem dX7_ordersUsually_18 : decode cX7_ordersUsually 18 = .ok (.aload_n 0, 1) := by decide +kernel
theorem dX7_ordersUsually_19 : decode cX7_ordersUsually 19 = .ok (.getfield 19, 3) := by decide +kernel
theorem dX7_ordersUsually_22 : decode cX7_ordersUsually 22 = .ok (.iload_n 2, 1) := by decide +kernel
theorem dX7_ordersUsually_23 : decode cX7_ordersUsually 23 = .ok (.iconst 1, 1) := by decide +kernel
theorem dX7_ordersUsually_24 : decode cX7_ordersUsually 24 = .ok (.isub, 1) := by decide +kernel
theorem dX7_ordersUsually_25 : decode cX7_ordersUsually 25 = .ok (.iaload, 1) := by decide +kernel
theorem dX7_ordersUsually_26 : decode cX7_ordersUsually 26 = .ok (.invokevirtual 196, 3) := by decide +kernel
theorem dX7_ordersUsually_29 : decode cX7_ordersUsually 29 = .ok (.ifCond .eq 23, 3) := by decide +kernel
theorem dX7_ordersUsually_32 : decode cX7_ordersUsually 32 = .ok (.aload_n 0, 1) := by decide +kernel
theorem dX7_ordersUsually_33 : decode cX7_ordersUsually 33 = .ok (.getfield 19, 3) := by decide +kernel
theorem dX7_ordersUsually_36 : decode cX7_ordersUsually 36 = .ok (.iload_n 2, 1) := by decide +kernel
theorem dX7_ordersUsually_37 : decode cX7_ordersUsually 37 = .ok (.aload_n 0, 1) := by decide +kernel
theorem dX7_ordersUsually_38 : decode cX7_ordersUsually 38 = .ok (.getfield 19, 3) := by decide +kernel
theorem dX7_ordersUsually_41 : decode cX7_ordersUsually 41 = .ok (.iload_n 2, 1) := by decide +kernel
theorem dX7_ordersUsually_42 : decode cX7_ordersUsually 42 = .ok (.iconst 1, 1) := by decide +kernel
theorem dX7_ordersUsually_43 : decode cX7_ordersUsually 43 = .ok (.isub, 1) := by decide +kernel
theorem dX7_ordersUsually_44 : decode cX7_ordersUsually 44 = .ok (.iaload, 1) := by decide +kernel
theorem dX7_ordersUsually_45 : decode cX7_ordersUsually 45 = .ok (.iastore, 1) := by decide +kernel
theorem dX7_ordersUsually_46 : decode cX7_ordersUsually 46 = .ok (.iinc 2 (-1), 3) := by decide +kernel
theorem dX7_ordersUsually_49 : decode cX7_ordersUsually 49 = .ok (.goto (-37), 3) := by decide +kernel
theorem dX7_ordersUsually_52 : decode cX7_ordersUsually 52 = .ok (.aload_n 0, 1) := by decide +kernel
theorem dX7_ordersUsually_53 : decode cX7_ordersUsually 53 = .ok (.getfield 19, 3) := by decide +kernel
theorem dX7_ordersUsually_56 : decode cX7_ordersUsually 56 = .ok (.iload_n 2, 1) := by decide +kernel
theorem dX7_ordersUsually_57 : decode cX7_ordersUsually 57 = .ok (.iload_n 1, 1) := by decide +kernel
theorem dX7_ordersUsually_58 : decode cX7_ordersUsually 58 = .ok (.iastore, 1) := by decide +kernel
theorem dX7_ordersUsually_59 : decode cX7_ordersUsually 59 = .ok (.iinc 1 1, 3) := by decide +kernel
theorem dX7_ordersUsually_62 : decode cX7_ordersUsually 62 = .ok (.goto (-60), 3) := by decide +kernel
theorem dX7_ordersUsually_65 : decode cX7_ordersUsually 65 = .ok (.return_, 1) := by decide +kernel
theorem dX7_packs_0 : decode cX7_packs 0 = .ok (.aload_n 0, 1) := by decide +kernel
theorem dX7_packs_1 : decode cX7_packs 1 = .ok (.invokevirtual 172, 3) := by decide +kernel
theorem dX7_packs_4 : decode cX7_packs 4 = .ok (.iconst 0, 1) := by decide +kernel
theorem dX7_packs_5 : decode cX7_packs 5 = .ok (.istore_n 1, 1) := by decide +kernel
theorem dX7_packs_6 : decode cX7_packs 6 = .ok (.iload_n 1, 1) := by decide +kernel
theorem dX7_packs_7 : decode cX7_packs 7 = .ok (.aload_n 0, 1) := by decide +kernel
theorem dX7_packs_8 : decode cX7_packs 8 = .ok (.invokevirtual 39, 3) := by decide +kernel
theorem dX7_packs_11 : decode cX7_packs 11 = .ok (.if_icmp .ge 50, 3) := by decide +kernel
theorem dX7_packs_14 : decode cX7_packs 14 = .ok (.aload_n 0, 1) := by decide +kernel
theorem dX7_packs_15 : decode cX7_packs 15 = .ok (.aload_n 0, 1) := by decide +kernel
theorem dX7_packs_16 : decode cX7_packs 16 = .ok (.getfield 19, 3) := by decide +kernel
theorem dX7_packs_19 : decode cX7_packs 19 = .ok (.iload_n 1, 1) := by decide +kernel
theorem dX7_packs_20 : decode cX7_packs 20 = .ok (.iaload, 1) := by decide +kernel
theorem dX7_packs_21 : decode cX7_packs 21 = .ok (.invokevirtual 193, 3) := by decide +kernel
theorem dX7_packs_24 : decode cX7_packs 24 = .ok (.aload_n 0, 1) := by decide +kernel
theorem dX7_packs_25 : decode cX7_packs 25 = .ok (.getfield 181, 3) := by decide +kernel
theorem dX7_packs_28 : decode cX7_packs 28 = .ok (.bipush (-9), 2) := by decide +kernel
theorem dX7_packs_30 : decode cX7_packs 30 = .ok (.if_icmp .eq 25, 3) := by decide +kernel
theorem dX7_packs_33 : decode cX7_packs 33 = .ok (.aload_n 0, 1) := by decide +kernel
theorem dX7_packs_34 : decode cX7_packs 34 = .ok (.aload_n 0, 1) := by decide +kernel
theorem dX7_packs_35 : decode cX7_packs 35 = .ok (.getfield 19, 3) := by decide +kernel
theorem dX7_packs_38 : decode cX7_packs 38 = .ok (.iload_n 1, 1) := by decide +kernel
theorem dX7_packs_39 : decode cX7_packs 39 = .ok (.iaload, 1) := by decide +kernel
theorem dX7_packs_40 : decode cX7_packs 40 = .ok (.aload_n 0, 1) := by decide +kernel
theorem dX7_packs_41 : decode cX7_packs 41 = .ok (.getfield 184, 3) := by decide +kernel
theorem dX7_packs_44 : decode cX7_packs 44 = .ok (.aload_n 0, 1) := by decide +kernel
theorem dX7_packs_45 : decode cX7_packs 45 = .ok (.getfield 187, 3) := by decide +kernel
theorem dX7_packs_48 : decode cX7_packs 48 = .ok (.aload_n 0, 1) := by decide +kernel
theorem dX7_packs_49 : decode cX7_packs 49 = .ok (.getfield 190, 3) := by decide +kernel
theorem dX7_packs_52 : decode cX7_packs 52 = .ok (.invokevirtual 107, 3) := by decide +kernel
theorem dX7_packs_55 : decode cX7_packs 55 = .ok (.iinc 1 1, 3) := by decide +kernel
theorem dX7_packs_58 : decode cX7_packs 58 = .ok (.goto (-52), 3) := by decide +kernel
theorem dX7_packs_61 : decode cX7_packs 61 = .ok (.return_, 1) := by decide +kernel
theorem dX7_swaps_0 : decode cX7_swaps 0 = .ok (.aload_n 0, 1) := by decide +kernel
theorem dX7_swaps_1 : decode cX7_swaps 1 = .ok (.getfield 19, 3) := by decide +kernel
theorem dX7_swaps_4 : decode cX7_swaps 4 = .ok (.iload_n 1, 1) := by decide +kernel
theorem dX7_swaps_5 : decode cX7_swaps 5 = .ok (.iaload, 1) := by decide +kernel
theorem dX7_swaps_6 : decode cX7_swaps 6 = .ok (.istore_n 3, 1) := by decide +kernel
theorem dX7_swaps_7 : decode cX7_swaps 7 = .ok (.aload_n 0, 1) := by decide +kernel
theorem dX7_swaps_8 : decode cX7_swaps 8 = .ok (.getfield 19, 3) := by decide +kernel
theorem dX7_swaps_11 : decode cX7_swaps 11 = .ok (.iload_n 1, 1) := by decide +kernel
theorem dX7_swaps_12 : decode cX7_swaps 12 = .ok (.aload_n 0, 1) := by decide +kernel
theorem dX7_swaps_13 : decode cX7_swaps 13 = .ok (.getfield 19, 3) := by decide +kernel
theorem dX7_swaps_16 : decode cX7_swaps 16 = .ok (.iload_n 2, 1) := by decide +kernel
theorem dX7_swaps_17 : decode cX7_swaps 17 = .ok (.iaload, 1) := by decide +kernel
theorem dX7_swaps_18 : decode cX7_swaps 18 = .ok (.iastore, 1) := by decide +kernel
theorem dX7_swaps_19 : decode cX7_swaps 19 = .ok (.aload_n 0, 1) := by decide +kernel
theorem dX7_swaps_20 : decode cX7_swaps 20 = .ok (.getfield 19, 3) := by decide +kernel
theorem dX7_swaps_23 : decode cX7_swaps 23 = .ok (.iload_n 2, 1) := by decide +kernel
theorem dX7_swaps_24 : decode cX7_swaps 24 = .ok (.iload_n 3, 1) := by decide +kernel
theorem dX7_swaps_25 : decode cX7_swaps 25 = .ok (.iastore, 1) := by decide +kernel
theorem dX7_swaps_26 : decode cX7_swaps 26 = .ok (.return_, 1) := by decide +kernel
theorem dX7_ordersNext_0 : decode cX7_ordersNext 0 = .ok (.aload_n 0, 1) := by decide +kernel
theorem dX7_ordersNext_1 : decode cX7_ordersNext 1 = .ok (.invokevirtual 39, 3) := by decide +kernel
theorem dX7_ordersNext_4 : decode cX7_ordersNext 4 = .ok (.iconst 2, 1) := by decide +kernel
theorem dX7_ordersNext_5 : decode cX7_ordersNext 5 = .ok (.isub, 1) := by decide +kernel
theorem dX7_ordersNext_6 : decode cX7_ordersNext 6 = .ok (.istore_n 1, 1) := by decide +kernel
theorem dX7_ordersNext_7 : decode cX7_ordersNext 7 = .ok (.iload_n 1, 1) := by decide +kernel
theorem dX7_ordersNext_8 : decode cX7_ordersNext 8 = .ok (.ifCond .lt 26, 3) := by decide +kernel
theorem dX7_ordersNext_11 : decode cX7_ordersNext 11 = .ok (.aload_n 0, 1) := by decide +kernel
theorem dX7_ordersNext_12 : decode cX7_ordersNext 12 = .ok (.getfield 19, 3) := by decide +kernel
theorem dX7_ordersNext_15 : decode cX7_ordersNext 15 = .ok (.iload_n 1, 1) := by decide +kernel
theorem dX7_ordersNext_16 : decode cX7_ordersNext 16 = .ok (.iaload, 1) := by decide +kernel
theorem dX7_ordersNext_17 : decode cX7_ordersNext 17 = .ok (.aload_n 0, 1) := by decide +kernel
theorem dX7_ordersNext_18 : decode cX7_ordersNext 18 = .ok (.getfield 19, 3) := by decide +kernel
theorem dX7_ordersNext_21 : decode cX7_ordersNext 21 = .ok (.iload_n 1, 1) := by decide +kernel
theorem dX7_ordersNext_22 : decode cX7_ordersNext 22 = .ok (.iconst 1, 1) := by decide +kernel
theorem dX7_ordersNext_23 : decode cX7_ordersNext 23 = .ok (.iadd, 1) := by decide +kernel
theorem dX7_ordersNext_24 : decode cX7_ordersNext 24 = .ok (.iaload, 1) := by decide +kernel
theorem dX7_ordersNext_25 : decode cX7_ordersNext 25 = .ok (.if_icmp .le 9, 3) := by decide +kernel
theorem dX7_ordersNext_28 : decode cX7_ordersNext 28 = .ok (.iinc 1 (-1), 3) := by decide +kernel
theorem dX7_ordersNext_31 : decode cX7_ordersNext 31 = .ok (.goto (-24), 3) := by decide +kernel
theorem dX7_ordersNext_34 : decode cX7_ordersNext 34 = .ok (.iload_n 1, 1) := by decide +kernel
theorem dX7_ordersNext_35 : decode cX7_ordersNext 35 = .ok (.ifCond .ge 5, 3) := by decide +kernel
theorem dX7_ordersNext_38 : decode cX7_ordersNext 38 = .ok (.iconst 0, 1) := by decide +kernel
theorem dX7_ordersNext_39 : decode cX7_ordersNext 39 = .ok (.ireturn, 1) := by decide +kernel
theorem dX7_ordersNext_40 : decode cX7_ordersNext 40 = .ok (.aload_n 0, 1) := by decide +kernel
theorem dX7_ordersNext_41 : decode cX7_ordersNext 41 = .ok (.invokevirtual 39, 3) := by decide +kernel
theorem dX7_ordersNext_44 : decode cX7_ordersNext 44 = .ok (.iconst 1, 1) := by decide +kernel
theorem dX7_ordersNext_45 : decode cX7_ordersNext 45 = .ok (.isub, 1) := by decide +kernel
theorem dX7_ordersNext_46 : decode cX7_ordersNext 46 = .ok (.istore_n 2, 1) := by decide +kernel
theorem dX7_ordersNext_47 : decode cX7_ordersNext 47 = .ok (.aload_n 0, 1) := by decide +kernel
theorem dX7_ordersNext_48 : decode cX7_ordersNext 48 = .ok (.getfield 19, 3) := by decide +kernel
theorem dX7_ordersNext_51 : decode cX7_ordersNext 51 = .ok (.iload_n 2, 1) := by decide +kernel
theorem dX7_ordersNext_52 : decode cX7_ordersNext 52 = .ok (.iaload, 1) := by decide +kernel
theorem dX7_ordersNext_53 : decode cX7_ordersNext 53 = .ok (.aload_n 0, 1) := by decide +kernel
theorem dX7_ordersNext_54 : decode cX7_ordersNext 54 = .ok (.getfield 19, 3) := by decide +kernel
theorem dX7_ordersNext_57 : decode cX7_ordersNext 57 = .ok (.iload_n 1, 1) := by decide +kernel
theorem dX7_ordersNext_58 : decode cX7_ordersNext 58 = .ok (.iaload, 1) := by decide +kernel
theorem dX7_ordersNext_59 : decode cX7_ordersNext 59 = .ok (.if_icmp .ge 9, 3) := by decide +kernel
theorem dX7_ordersNext_62 : decode cX7_ordersNext 62 = .ok (.iinc 2 (-1), 3) := by decide +kernel
theorem dX7_ordersNext_65 : decode cX7_ordersNext 65 = .ok (.goto (-18), 3) := by decide +kernel
theorem dX7_ordersNext_68 : decode cX7_ordersNext 68 = .ok (.aload_n 0, 1) := by decide +kernel
theorem dX7_ordersNext_69 : decode cX7_ordersNext 69 = .ok (.iload_n 1, 1) := by decide +kernel
theorem dX7_ordersNext_70 : decode cX7_ordersNext 70 = .ok (.iload_n 2, 1) := by decide +kernel
theorem dX7_ordersNext_71 : decode cX7_ordersNext 71 = .ok (.invokevirtual 199, 3) := by decide +kernel
theorem dX7_ordersNext_74 : decode cX7_ordersNext 74 = .ok (.aload_n 0, 1) := by decide +kernel
theorem dX7_ordersNext_75 : decode cX7_ordersNext 75 = .ok (.invokevirtual 39, 3) := by decide +kernel
theorem dX7_ordersNext_78 : decode cX7_ordersNext 78 = .ok (.iconst 1, 1) := by decide +kernel
theorem dX7_ordersNext_79 : decode cX7_ordersNext 79 = .ok (.isub, 1) := by decide +kernel
theorem dX7_ordersNext_80 : decode cX7_ordersNext 80 = .ok (.istore_n 3, 1) := by decide +kernel
theorem dX7_ordersNext_81 : decode cX7_ordersNext 81 = .ok (.iload_n 1, 1) := by decide +kernel
theorem dX7_ordersNext_82 : decode cX7_ordersNext 82 = .ok (.iconst 1, 1) := by decide +kernel
theorem dX7_ordersNext_83 : decode cX7_ordersNext 83 = .ok (.iadd, 1) := by decide +kernel
theorem dX7_ordersNext_84 : decode cX7_ordersNext 84 = .ok (.istore 4, 2) := by decide +kernel
theorem dX7_ordersNext_86 : decode cX7_ordersNext 86 = .ok (.iload 4, 2) := by decide +kernel
theorem dX7_ordersNext_88 : decode cX7_ordersNext 88 = .ok (.iload_n 3, 1) := by decide +kernel
theorem dX7_ordersNext_89 : decode cX7_ordersNext 89 = .ok (.if_icmp .ge 19, 3) := by decide +kernel
theorem dX7_ordersNext_92 : decode cX7_ordersNext 92 = .ok (.aload_n 0, 1) := by decide +kernel
theorem dX7_ordersNext_93 : decode cX7_ordersNext 93 = .ok (.iload 4, 2) := by decide +kernel
theorem dX7_ordersNext_95 : decode cX7_ordersNext 95 = .ok (.iload_n 3, 1) := by decide +kernel
theorem dX7_ordersNext_96 : decode cX7_ordersNext 96 = .ok (.invokevirtual 199, 3) := by decide +kernel
theorem dX7_ordersNext_99 : decode cX7_ordersNext 99 = .ok (.iinc 3 (-1), 3) := by decide +kernel
theorem dX7_ordersNext_102 : decode cX7_ordersNext 102 = .ok (.iinc 4 1, 3) := by decide +kernel
theorem dX7_ordersNext_105 : decode cX7_ordersNext 105 = .ok (.goto (-19), 3) := by decide +kernel
theorem dX7_ordersNext_108 : decode cX7_ordersNext 108 = .ok (.iconst 1, 1) := by decide +kernel
theorem dX7_ordersNext_109 : decode cX7_ordersNext 109 = .ok (.ireturn, 1) := by decide +kernel
theorem dX7_comesTo_0 : decode cX7_comesTo 0 = .ok (.iload_n 1, 1) := by decide +kernel
theorem dX7_comesTo_1 : decode cX7_comesTo 1 = .ok (.tableswitch 47 0 2 #[27, 37, 42], 27) := by decide +kernel
theorem dX7_comesTo_28 : decode cX7_comesTo 28 = .ok (.aload_n 0, 1) := by decide +kernel
theorem dX7_comesTo_29 : decode cX7_comesTo 29 = .ok (.invokevirtual 39, 3) := by decide +kernel
theorem dX7_comesTo_32 : decode cX7_comesTo 32 = .ok (.aload_n 0, 1) := by decide +kernel
theorem dX7_comesTo_33 : decode cX7_comesTo 33 = .ok (.invokevirtual 169, 3) := by decide +kernel
theorem dX7_comesTo_36 : decode cX7_comesTo 36 = .ok (.isub, 1) := by decide +kernel
theorem dX7_comesTo_37 : decode cX7_comesTo 37 = .ok (.ireturn, 1) := by decide +kernel
theorem dX7_comesTo_38 : decode cX7_comesTo 38 = .ok (.aload_n 0, 1) := by decide +kernel
theorem dX7_comesTo_39 : decode cX7_comesTo 39 = .ok (.invokevirtual 202, 3) := by decide +kernel
theorem dX7_comesTo_42 : decode cX7_comesTo 42 = .ok (.ireturn, 1) := by decide +kernel
theorem dX7_comesTo_43 : decode cX7_comesTo 43 = .ok (.aload_n 0, 1) := by decide +kernel
theorem dX7_comesTo_44 : decode cX7_comesTo 44 = .ok (.invokevirtual 127, 3) := by decide +kernel
theorem dX7_comesTo_47 : decode cX7_comesTo 47 = .ok (.ireturn, 1) := by decide +kernel
theorem dX7_comesTo_48 : decode cX7_comesTo 48 = .ok (.aload_n 0, 1) := by decide +kernel
theorem dX7_comesTo_49 : decode cX7_comesTo 49 = .ok (.invokevirtual 205, 3) := by decide +kernel
theorem dX7_comesTo_52 : decode cX7_comesTo 52 = .ok (.ireturn, 1) := by decide +kernel
theorem dX7_isBetter_0 : decode cX7_isBetter 0 = .ok (.iconst 0, 1) := by decide +kernel
theorem dX7_isBetter_1 : decode cX7_isBetter 1 = .ok (.istore_n 1, 1) := by decide +kernel
theorem dX7_isBetter_2 : decode cX7_isBetter 2 = .ok (.iload_n 1, 1) := by decide +kernel
theorem dX7_isBetter_3 : decode cX7_isBetter 3 = .ok (.iconst 4, 1) := by decide +kernel
theorem dX7_isBetter_4 : decode cX7_isBetter 4 = .ok (.if_icmp .ge 43, 3) := by decide +kernel
theorem dX7_isBetter_7 : decode cX7_isBetter 7 = .ok (.aload_n 0, 1) := by decide +kernel
theorem dX7_isBetter_8 : decode cX7_isBetter 8 = .ok (.iload_n 1, 1) := by decide +kernel
theorem dX7_isBetter_9 : decode cX7_isBetter 9 = .ok (.invokevirtual 208, 3) := by decide +kernel
theorem dX7_isBetter_12 : decode cX7_isBetter 12 = .ok (.aload_n 0, 1) := by decide +kernel
theorem dX7_isBetter_13 : decode cX7_isBetter 13 = .ok (.getfield 25, 3) := by decide +kernel
theorem dX7_isBetter_16 : decode cX7_isBetter 16 = .ok (.iload_n 1, 1) := by decide +kernel
theorem dX7_isBetter_17 : decode cX7_isBetter 17 = .ok (.iaload, 1) := by decide +kernel
theorem dX7_isBetter_18 : decode cX7_isBetter 18 = .ok (.if_icmp .eq 23, 3) := by decide +kernel
theorem dX7_isBetter_21 : decode cX7_isBetter 21 = .ok (.aload_n 0, 1) := by decide +kernel
theorem dX7_isBetter_22 : decode cX7_isBetter 22 = .ok (.iload_n 1, 1) := by decide +kernel
theorem dX7_isBetter_23 : decode cX7_isBetter 23 = .ok (.invokevirtual 208, 3) := by decide +kernel
theorem dX7_isBetter_26 : decode cX7_isBetter 26 = .ok (.aload_n 0, 1) := by decide +kernel
theorem dX7_isBetter_27 : decode cX7_isBetter 27 = .ok (.getfield 25, 3) := by decide +kernel
theorem dX7_isBetter_30 : decode cX7_isBetter 30 = .ok (.iload_n 1, 1) := by decide +kernel
theorem dX7_isBetter_31 : decode cX7_isBetter 31 = .ok (.iaload, 1) := by decide +kernel
theorem dX7_isBetter_32 : decode cX7_isBetter 32 = .ok (.if_icmp .ge 7, 3) := by decide +kernel
theorem dX7_isBetter_35 : decode cX7_isBetter 35 = .ok (.iconst 1, 1) := by decide +kernel
theorem dX7_isBetter_36 : decode cX7_isBetter 36 = .ok (.goto 4, 3) := by decide +kernel
theorem dX7_isBetter_39 : decode cX7_isBetter 39 = .ok (.iconst 0, 1) := by decide +kernel
theorem dX7_isBetter_40 : decode cX7_isBetter 40 = .ok (.ireturn, 1) := by decide +kernel
theorem dX7_isBetter_41 : decode cX7_isBetter 41 = .ok (.iinc 1 1, 3) := by decide +kernel
theorem dX7_isBetter_44 : decode cX7_isBetter 44 = .ok (.goto (-42), 3) := by decide +kernel
theorem dX7_isBetter_47 : decode cX7_isBetter 47 = .ok (.iconst 0, 1) := by decide +kernel
theorem dX7_isBetter_48 : decode cX7_isBetter 48 = .ok (.ireturn, 1) := by decide +kernel
theorem dX7_ordersBest_0 : decode cX7_ordersBest 0 = .ok (.iconst 0, 1) := by decide +kernel
theorem dX7_ordersBest_1 : decode cX7_ordersBest 1 = .ok (.istore_n 1, 1) := by decide +kernel
theorem dX7_ordersBest_2 : decode cX7_ordersBest 2 = .ok (.iload_n 1, 1) := by decide +kernel
theorem dX7_ordersBest_3 : decode cX7_ordersBest 3 = .ok (.aload_n 0, 1) := by decide +kernel
theorem dX7_ordersBest_4 : decode cX7_ordersBest 4 = .ok (.invokevirtual 39, 3) := by decide +kernel
theorem dX7_ordersBest_7 : decode cX7_ordersBest 7 = .ok (.if_icmp .ge 16, 3) := by decide +kernel
theorem dX7_ordersBest_10 : decode cX7_ordersBest 10 = .ok (.aload_n 0, 1) := by decide +kernel
theorem dX7_ordersBest_11 : decode cX7_ordersBest 11 = .ok (.getfield 19, 3) := by decide +kernel
theorem dX7_ordersBest_14 : decode cX7_ordersBest 14 = .ok (.iload_n 1, 1) := by decide +kernel
theorem dX7_ordersBest_15 : decode cX7_ordersBest 15 = .ok (.iload_n 1, 1) := by decide +kernel
theorem dX7_ordersBest_16 : decode cX7_ordersBest 16 = .ok (.iastore, 1) := by decide +kernel
theorem dX7_ordersBest_17 : decode cX7_ordersBest 17 = .ok (.iinc 1 1, 3) := by decide +kernel
theorem dX7_ordersBest_20 : decode cX7_ordersBest 20 = .ok (.goto (-18), 3) := by decide +kernel
theorem dX7_ordersBest_23 : decode cX7_ordersBest 23 = .ok (.iconst 1, 1) := by decide +kernel
theorem dX7_ordersBest_24 : decode cX7_ordersBest 24 = .ok (.istore_n 1, 1) := by decide +kernel
theorem dX7_ordersBest_25 : decode cX7_ordersBest 25 = .ok (.iconst 1, 1) := by decide +kernel
theorem dX7_ordersBest_26 : decode cX7_ordersBest 26 = .ok (.istore_n 2, 1) := by decide +kernel
theorem dX7_ordersBest_27 : decode cX7_ordersBest 27 = .ok (.iload_n 2, 1) := by decide +kernel
theorem dX7_ordersBest_28 : decode cX7_ordersBest 28 = .ok (.ifCond .eq 80, 3) := by decide +kernel
theorem dX7_ordersBest_31 : decode cX7_ordersBest 31 = .ok (.aload_n 0, 1) := by decide +kernel
theorem dX7_ordersBest_32 : decode cX7_ordersBest 32 = .ok (.invokevirtual 211, 3) := by decide +kernel
theorem dX7_ordersBest_35 : decode cX7_ordersBest 35 = .ok (.iload_n 1, 1) := by decide +kernel
theorem dX7_ordersBest_36 : decode cX7_ordersBest 36 = .ok (.ifCond .ne 10, 3) := by decide +kernel
theorem dX7_ordersBest_39 : decode cX7_ordersBest 39 = .ok (.aload_n 0, 1) := by decide +kernel
theorem dX7_ordersBest_40 : decode cX7_ordersBest 40 = .ok (.invokevirtual 214, 3) := by decide +kernel
theorem dX7_ordersBest_43 : decode cX7_ordersBest 43 = .ok (.ifCond .eq 55, 3) := by decide +kernel
theorem dX7_ordersBest_46 : decode cX7_ordersBest 46 = .ok (.iconst 0, 1) := by decide +kernel
theorem dX7_ordersBest_47 : decode cX7_ordersBest 47 = .ok (.istore_n 3, 1) := by decide +kernel
theorem dX7_ordersBest_48 : decode cX7_ordersBest 48 = .ok (.iload_n 3, 1) := by decide +kernel
theorem dX7_ordersBest_49 : decode cX7_ordersBest 49 = .ok (.iconst 4, 1) := by decide +kernel
theorem dX7_ordersBest_50 : decode cX7_ordersBest 50 = .ok (.if_icmp .ge 20, 3) := by decide +kernel
theorem dX7_ordersBest_53 : decode cX7_ordersBest 53 = .ok (.aload_n 0, 1) := by decide +kernel
theorem dX7_ordersBest_54 : decode cX7_ordersBest 54 = .ok (.getfield 25, 3) := by decide +kernel
theorem dX7_ordersBest_57 : decode cX7_ordersBest 57 = .ok (.iload_n 3, 1) := by decide +kernel
theorem dX7_ordersBest_58 : decode cX7_ordersBest 58 = .ok (.aload_n 0, 1) := by decide +kernel
theorem dX7_ordersBest_59 : decode cX7_ordersBest 59 = .ok (.iload_n 3, 1) := by decide +kernel
theorem dX7_ordersBest_60 : decode cX7_ordersBest 60 = .ok (.invokevirtual 208, 3) := by decide +kernel
theorem dX7_ordersBest_63 : decode cX7_ordersBest 63 = .ok (.iastore, 1) := by decide +kernel
theorem dX7_ordersBest_64 : decode cX7_ordersBest 64 = .ok (.iinc 3 1, 3) := by decide +kernel
theorem dX7_ordersBest_67 : decode cX7_ordersBest 67 = .ok (.goto (-19), 3) := by decide +kernel
theorem dX7_ordersBest_70 : decode cX7_ordersBest 70 = .ok (.iconst 0, 1) := by decide +kernel
theorem dX7_ordersBest_71 : decode cX7_ordersBest 71 = .ok (.istore_n 3, 1) := by decide +kernel
theorem dX7_ordersBest_72 : decode cX7_ordersBest 72 = .ok (.iload_n 3, 1) := by decide +kernel
theorem dX7_ordersBest_73 : decode cX7_ordersBest 73 = .ok (.aload_n 0, 1) := by decide +kernel
theorem dX7_ordersBest_74 : decode cX7_ordersBest 74 = .ok (.invokevirtual 39, 3) := by decide +kernel
theorem dX7_ordersBest_77 : decode cX7_ordersBest 77 = .ok (.if_icmp .ge 21, 3) := by decide +kernel
theorem dX7_ordersBest_80 : decode cX7_ordersBest 80 = .ok (.aload_n 0, 1) := by decide +kernel
theorem dX7_ordersBest_81 : decode cX7_ordersBest 81 = .ok (.getfield 22, 3) := by decide +kernel
theorem dX7_ordersBest_84 : decode cX7_ordersBest 84 = .ok (.iload_n 3, 1) := by decide +kernel
theorem dX7_ordersBest_85 : decode cX7_ordersBest 85 = .ok (.aload_n 0, 1) := by decide +kernel
theorem dX7_ordersBest_86 : decode cX7_ordersBest 86 = .ok (.getfield 19, 3) := by decide +kernel
theorem dX7_ordersBest_89 : decode cX7_ordersBest 89 = .ok (.iload_n 3, 1) := by decide +kernel
theorem dX7_ordersBest_90 : decode cX7_ordersBest 90 = .ok (.iaload, 1) := by decide +kernel
theorem dX7_ordersBest_91 : decode cX7_ordersBest 91 = .ok (.iastore, 1) := by decide +kernel
theorem dX7_ordersBest_92 : decode cX7_ordersBest 92 = .ok (.iinc 3 1, 3) := by decide +kernel
theorem dX7_ordersBest_95 : decode cX7_ordersBest 95 = .ok (.goto (-23), 3) := by decide +kernel
theorem dX7_ordersBest_98 : decode cX7_ordersBest 98 = .ok (.iconst 0, 1) := by decide +kernel
theorem dX7_ordersBest_99 : decode cX7_ordersBest 99 = .ok (.istore_n 1, 1) := by decide +kernel
theorem dX7_ordersBest_100 : decode cX7_ordersBest 100 = .ok (.aload_n 0, 1) := by decide +kernel
theorem dX7_ordersBest_101 : decode cX7_ordersBest 101 = .ok (.invokevirtual 217, 3) := by decide +kernel
theorem dX7_ordersBest_104 : decode cX7_ordersBest 104 = .ok (.istore_n 2, 1) := by decide +kernel
theorem dX7_ordersBest_105 : decode cX7_ordersBest 105 = .ok (.goto (-78), 3) := by decide +kernel
theorem dX7_ordersBest_108 : decode cX7_ordersBest 108 = .ok (.iconst 0, 1) := by decide +kernel
theorem dX7_ordersBest_109 : decode cX7_ordersBest 109 = .ok (.istore_n 3, 1) := by decide +kernel
theorem dX7_ordersBest_110 : decode cX7_ordersBest 110 = .ok (.iload_n 3, 1) := by decide +kernel
theorem dX7_ordersBest_111 : decode cX7_ordersBest 111 = .ok (.aload_n 0, 1) := by decide +kernel
theorem dX7_ordersBest_112 : decode cX7_ordersBest 112 = .ok (.invokevirtual 39, 3) := by decide +kernel
theorem dX7_ordersBest_115 : decode cX7_ordersBest 115 = .ok (.if_icmp .ge 21, 3) := by decide +kernel
theorem dX7_ordersBest_118 : decode cX7_ordersBest 118 = .ok (.aload_n 0, 1) := by decide +kernel
theorem dX7_ordersBest_119 : decode cX7_ordersBest 119 = .ok (.getfield 19, 3) := by decide +kernel
theorem dX7_ordersBest_122 : decode cX7_ordersBest 122 = .ok (.iload_n 3, 1) := by decide +kernel
theorem dX7_ordersBest_123 : decode cX7_ordersBest 123 = .ok (.aload_n 0, 1) := by decide +kernel
theorem dX7_ordersBest_124 : decode cX7_ordersBest 124 = .ok (.getfield 22, 3) := by decide +kernel
theorem dX7_ordersBest_127 : decode cX7_ordersBest 127 = .ok (.iload_n 3, 1) := by decide +kernel
theorem dX7_ordersBest_128 : decode cX7_ordersBest 128 = .ok (.iaload, 1) := by decide +kernel
theorem dX7_ordersBest_129 : decode cX7_ordersBest 129 = .ok (.iastore, 1) := by decide +kernel
theorem dX7_ordersBest_130 : decode cX7_ordersBest 130 = .ok (.iinc 3 1, 3) := by decide +kernel
theorem dX7_ordersBest_133 : decode cX7_ordersBest 133 = .ok (.goto (-23), 3) := by decide +kernel
theorem dX7_ordersBest_136 : decode cX7_ordersBest 136 = .ok (.return_, 1) := by decide +kernel
theorem dX7_pack_0 : decode cX7_pack 0 = .ok (.aload_n 0, 1) := by decide +kernel
theorem dX7_pack_1 : decode cX7_pack 1 = .ok (.invokevirtual 104, 3) := by decide +kernel
theorem dX7_pack_4 : decode cX7_pack 4 = .ok (.aload_n 0, 1) := by decide +kernel
theorem dX7_pack_5 : decode cX7_pack 5 = .ok (.invokevirtual 220, 3) := by decide +kernel
theorem dX7_pack_8 : decode cX7_pack 8 = .ok (.aload_n 0, 1) := by decide +kernel
theorem dX7_pack_9 : decode cX7_pack 9 = .ok (.invokevirtual 211, 3) := by decide +kernel
theorem dX7_pack_12 : decode cX7_pack 12 = .ok (.aload_n 0, 1) := by decide +kernel
theorem dX7_pack_13 : decode cX7_pack 13 = .ok (.iconst 0, 1) := by decide +kernel
theorem dX7_pack_14 : decode cX7_pack 14 = .ok (.invokevirtual 208, 3) := by decide +kernel
theorem dX7_pack_17 : decode cX7_pack 17 = .ok (.ireturn, 1) := by decide +kernel
theorem dX7_packBest_0 : decode cX7_packBest 0 = .ok (.aload_n 0, 1) := by decide +kernel
theorem dX7_packBest_1 : decode cX7_packBest 1 = .ok (.invokevirtual 39, 3) := by decide +kernel
theorem dX7_packBest_4 : decode cX7_packBest 4 = .ok (.iconst 5, 1) := by decide +kernel
theorem dX7_packBest_5 : decode cX7_packBest 5 = .ok (.if_icmp .le 6, 3) := by decide +kernel
theorem dX7_packBest_8 : decode cX7_packBest 8 = .ok (.bipush (-2), 2) := by decide +kernel
theorem dX7_packBest_10 : decode cX7_packBest 10 = .ok (.ireturn, 1) := by decide +kernel
theorem dX7_packBest_11 : decode cX7_packBest 11 = .ok (.aload_n 0, 1) := by decide +kernel
theorem dX7_packBest_12 : decode cX7_packBest 12 = .ok (.invokevirtual 104, 3) := by decide +kernel
theorem dX7_packBest_15 : decode cX7_packBest 15 = .ok (.aload_n 0, 1) := by decide +kernel
theorem dX7_packBest_16 : decode cX7_packBest 16 = .ok (.invokevirtual 223, 3) := by decide +kernel
theorem dX7_packBest_19 : decode cX7_packBest 19 = .ok (.aload_n 0, 1) := by decide +kernel
theorem dX7_packBest_20 : decode cX7_packBest 20 = .ok (.invokevirtual 211, 3) := by decide +kernel
theorem dX7_packBest_23 : decode cX7_packBest 23 = .ok (.aload_n 0, 1) := by decide +kernel
theorem dX7_packBest_24 : decode cX7_packBest 24 = .ok (.iconst 0, 1) := by decide +kernel
theorem dX7_packBest_25 : decode cX7_packBest 25 = .ok (.invokevirtual 208, 3) := by decide +kernel
theorem dX7_packBest_28 : decode cX7_packBest 28 = .ok (.ireturn, 1) := by decide +kernel
theorem dX7_ifPacked_0 : decode cX7_ifPacked 0 = .ok (.iload_n 2, 1) := by decide +kernel
theorem dX7_ifPacked_1 : decode cX7_ifPacked 1 = .ok (.ifCond .lt 13, 3) := by decide +kernel
theorem dX7_ifPacked_4 : decode cX7_ifPacked 4 = .ok (.iload_n 2, 1) := by decide +kernel
theorem dX7_ifPacked_5 : decode cX7_ifPacked 5 = .ok (.iconst 4, 1) := by decide +kernel
theorem dX7_ifPacked_6 : decode cX7_ifPacked 6 = .ok (.bipush 9, 2) := by decide +kernel
theorem dX7_ifPacked_8 : decode cX7_ifPacked 8 = .ok (.invokestatic 43, 3) := by decide +kernel
theorem dX7_ifPacked_11 : decode cX7_ifPacked 11 = .ok (.ifCond .eq 5, 3) := by decide +kernel
theorem dX7_ifPacked_14 : decode cX7_ifPacked 14 = .ok (.iconst (-1), 1) := by decide +kernel
theorem dX7_ifPacked_15 : decode cX7_ifPacked 15 = .ok (.ireturn, 1) := by decide +kernel
theorem dX7_ifPacked_16 : decode cX7_ifPacked 16 = .ok (.iload_n 1, 1) := by decide +kernel
theorem dX7_ifPacked_17 : decode cX7_ifPacked 17 = .ok (.ifCond .eq 14, 3) := by decide +kernel
theorem dX7_ifPacked_20 : decode cX7_ifPacked 20 = .ok (.aload_n 0, 1) := by decide +kernel
theorem dX7_ifPacked_21 : decode cX7_ifPacked 21 = .ok (.invokevirtual 39, 3) := by decide +kernel
theorem dX7_ifPacked_24 : decode cX7_ifPacked 24 = .ok (.iconst 5, 1) := by decide +kernel
theorem dX7_ifPacked_25 : decode cX7_ifPacked 25 = .ok (.if_icmp .le 6, 3) := by decide +kernel
theorem dX7_ifPacked_28 : decode cX7_ifPacked 28 = .ok (.bipush (-2), 2) := by decide +kernel
theorem dX7_ifPacked_30 : decode cX7_ifPacked 30 = .ok (.ireturn, 1) := by decide +kernel
theorem dX7_ifPacked_31 : decode cX7_ifPacked 31 = .ok (.iload_n 2, 1) := by decide +kernel
theorem dX7_ifPacked_32 : decode cX7_ifPacked 32 = .ok (.bipush 10, 2) := by decide +kernel
theorem dX7_ifPacked_34 : decode cX7_ifPacked 34 = .ok (.if_icmp .lt 17, 3) := by decide +kernel
theorem dX7_ifPacked_37 : decode cX7_ifPacked 37 = .ok (.iload_n 2, 1) := by decide +kernel
theorem dX7_ifPacked_38 : decode cX7_ifPacked 38 = .ok (.bipush 10, 2) := by decide +kernel
theorem dX7_ifPacked_40 : decode cX7_ifPacked 40 = .ok (.isub, 1) := by decide +kernel
theorem dX7_ifPacked_41 : decode cX7_ifPacked 41 = .ok (.aload_n 0, 1) := by decide +kernel
theorem dX7_ifPacked_42 : decode cX7_ifPacked 42 = .ok (.invokevirtual 39, 3) := by decide +kernel
theorem dX7_ifPacked_45 : decode cX7_ifPacked 45 = .ok (.if_icmp .lt 6, 3) := by decide +kernel
theorem dX7_ifPacked_48 : decode cX7_ifPacked 48 = .ok (.bipush (-9), 2) := by decide +kernel
theorem dX7_ifPacked_50 : decode cX7_ifPacked 50 = .ok (.ireturn, 1) := by decide +kernel
theorem dX7_ifPacked_51 : decode cX7_ifPacked 51 = .ok (.aload_n 0, 1) := by decide +kernel
theorem dX7_ifPacked_52 : decode cX7_ifPacked 52 = .ok (.iconst 0, 1) := by decide +kernel
theorem dX7_ifPacked_53 : decode cX7_ifPacked 53 = .ok (.bipush 10, 2) := by decide +kernel
theorem dX7_ifPacked_55 : decode cX7_ifPacked 55 = .ok (.invokevirtual 35, 3) := by decide +kernel
theorem dX7_ifPacked_58 : decode cX7_ifPacked 58 = .ok (.iload_n 1, 1) := by decide +kernel
theorem dX7_ifPacked_59 : decode cX7_ifPacked 59 = .ok (.ifCond .eq 10, 3) := by decide +kernel
theorem dX7_ifPacked_62 : decode cX7_ifPacked 62 = .ok (.aload_n 0, 1) := by decide +kernel
theorem dX7_ifPacked_63 : decode cX7_ifPacked 63 = .ok (.invokevirtual 223, 3) := by decide +kernel
theorem dX7_ifPacked_66 : decode cX7_ifPacked 66 = .ok (.goto 7, 3) := by decide +kernel
theorem dX7_ifPacked_69 : decode cX7_ifPacked 69 = .ok (.aload_n 0, 1) := by decide +kernel
theorem dX7_ifPacked_70 : decode cX7_ifPacked 70 = .ok (.invokevirtual 220, 3) := by decide +kernel
theorem dX7_ifPacked_73 : decode cX7_ifPacked 73 = .ok (.aload_n 0, 1) := by decide +kernel
theorem dX7_ifPacked_74 : decode cX7_ifPacked 74 = .ok (.invokevirtual 211, 3) := by decide +kernel
theorem dX7_ifPacked_77 : decode cX7_ifPacked 77 = .ok (.iload_n 2, 1) := by decide +kernel
theorem dX7_ifPacked_78 : decode cX7_ifPacked 78 = .ok (.bipush 10, 2) := by decide +kernel
theorem dX7_ifPacked_80 : decode cX7_ifPacked 80 = .ok (.if_icmp .lt 15, 3) := by decide +kernel
theorem dX7_ifPacked_83 : decode cX7_ifPacked 83 = .ok (.aload_n 0, 1) := by decide +kernel
theorem dX7_ifPacked_84 : decode cX7_ifPacked 84 = .ok (.getfield 19, 3) := by decide +kernel
theorem dX7_ifPacked_87 : decode cX7_ifPacked 87 = .ok (.iload_n 2, 1) := by decide +kernel
theorem dX7_ifPacked_88 : decode cX7_ifPacked 88 = .ok (.bipush 10, 2) := by decide +kernel
theorem dX7_ifPacked_90 : decode cX7_ifPacked 90 = .ok (.isub, 1) := by decide +kernel
theorem dX7_ifPacked_91 : decode cX7_ifPacked 91 = .ok (.iaload, 1) := by decide +kernel
theorem dX7_ifPacked_92 : decode cX7_ifPacked 92 = .ok (.goto 8, 3) := by decide +kernel
theorem dX7_ifPacked_95 : decode cX7_ifPacked 95 = .ok (.aload_n 0, 1) := by decide +kernel
theorem dX7_ifPacked_96 : decode cX7_ifPacked 96 = .ok (.iload_n 2, 1) := by decide +kernel
theorem dX7_ifPacked_97 : decode cX7_ifPacked 97 = .ok (.invokevirtual 208, 3) := by decide +kernel
theorem dX7_ifPacked_100 : decode cX7_ifPacked 100 = .ok (.istore_n 3, 1) := by decide +kernel
theorem dX7_ifPacked_101 : decode cX7_ifPacked 101 = .ok (.aload_n 0, 1) := by decide +kernel
theorem dX7_ifPacked_102 : decode cX7_ifPacked 102 = .ok (.bipush 10, 2) := by decide +kernel
theorem dX7_ifPacked_104 : decode cX7_ifPacked 104 = .ok (.iconst 0, 1) := by decide +kernel
theorem dX7_ifPacked_105 : decode cX7_ifPacked 105 = .ok (.invokevirtual 35, 3) := by decide +kernel
theorem dX7_ifPacked_108 : decode cX7_ifPacked 108 = .ok (.iload_n 3, 1) := by decide +kernel
theorem dX7_ifPacked_109 : decode cX7_ifPacked 109 = .ok (.ireturn, 1) := by decide +kernel
theorem dX7_gets_0 : decode cX7_gets 0 = .ok (.aload_n 0, 1) := by decide +kernel
theorem dX7_gets_1 : decode cX7_gets 1 = .ok (.iload_n 1, 1) := by decide +kernel
theorem dX7_gets_2 : decode cX7_gets 2 = .ok (.invokevirtual 118, 3) := by decide +kernel
theorem dX7_gets_5 : decode cX7_gets 5 = .ok (.istore_n 2, 1) := by decide +kernel
theorem dX7_gets_6 : decode cX7_gets 6 = .ok (.iconst 0, 1) := by decide +kernel
theorem dX7_gets_7 : decode cX7_gets 7 = .ok (.istore_n 3, 1) := by decide +kernel
theorem dX7_gets_8 : decode cX7_gets 8 = .ok (.iconst 0, 1) := by decide +kernel
theorem dX7_gets_9 : decode cX7_gets 9 = .ok (.istore 4, 2) := by decide +kernel
theorem dX7_gets_11 : decode cX7_gets 11 = .ok (.iload 4, 2) := by decide +kernel
theorem dX7_gets_13 : decode cX7_gets 13 = .ok (.aload_n 0, 1) := by decide +kernel
theorem dX7_gets_14 : decode cX7_gets 14 = .ok (.invokevirtual 39, 3) := by decide +kernel
theorem dX7_gets_17 : decode cX7_gets 17 = .ok (.if_icmp .ge 87, 3) := by decide +kernel
theorem dX7_gets_20 : decode cX7_gets 20 = .ok (.iload_n 2, 1) := by decide +kernel
theorem dX7_gets_21 : decode cX7_gets 21 = .ok (.iload 4, 2) := by decide +kernel
theorem dX7_gets_23 : decode cX7_gets 23 = .ok (.ishr, 1) := by decide +kernel
theorem dX7_gets_24 : decode cX7_gets 24 = .ok (.iconst 1, 1) := by decide +kernel
theorem dX7_gets_25 : decode cX7_gets 25 = .ok (.iand, 1) := by decide +kernel
theorem dX7_gets_26 : decode cX7_gets 26 = .ok (.iconst 1, 1) := by decide +kernel
theorem dX7_gets_27 : decode cX7_gets 27 = .ok (.if_icmp .ne 71, 3) := by decide +kernel
theorem dX7_gets_30 : decode cX7_gets 30 = .ok (.iload_n 3, 1) := by decide +kernel
theorem dX7_gets_31 : decode cX7_gets 31 = .ok (.istore 5, 2) := by decide +kernel
theorem dX7_gets_33 : decode cX7_gets 33 = .ok (.iload 5, 2) := by decide +kernel
theorem dX7_gets_35 : decode cX7_gets 35 = .ok (.ifCond .le 51, 3) := by decide +kernel
theorem dX7_gets_38 : decode cX7_gets 38 = .ok (.aload_n 0, 1) := by decide +kernel
theorem dX7_gets_39 : decode cX7_gets 39 = .ok (.aload_n 0, 1) := by decide +kernel
theorem dX7_gets_40 : decode cX7_gets 40 = .ok (.getfield 28, 3) := by decide +kernel
theorem dX7_gets_43 : decode cX7_gets 43 = .ok (.iload 5, 2) := by decide +kernel
theorem dX7_gets_45 : decode cX7_gets 45 = .ok (.iconst 1, 1) := by decide +kernel
theorem dX7_gets_46 : decode cX7_gets 46 = .ok (.isub, 1) := by decide +kernel
theorem dX7_gets_47 : decode cX7_gets 47 = .ok (.iaload, 1) := by decide +kernel
theorem dX7_gets_48 : decode cX7_gets 48 = .ok (.bipush 9, 2) := by decide +kernel
theorem dX7_gets_50 : decode cX7_gets 50 = .ok (.invokevirtual 47, 3) := by decide +kernel
theorem dX7_gets_53 : decode cX7_gets 53 = .ok (.aload_n 0, 1) := by decide +kernel
theorem dX7_gets_54 : decode cX7_gets 54 = .ok (.iload 4, 2) := by decide +kernel
theorem dX7_gets_56 : decode cX7_gets 56 = .ok (.bipush 9, 2) := by decide +kernel
theorem dX7_gets_58 : decode cX7_gets 58 = .ok (.invokevirtual 47, 3) := by decide +kernel
theorem dX7_gets_61 : decode cX7_gets 61 = .ok (.if_icmp .le 25, 3) := by decide +kernel
theorem dX7_gets_64 : decode cX7_gets 64 = .ok (.aload_n 0, 1) := by decide +kernel
theorem dX7_gets_65 : decode cX7_gets 65 = .ok (.getfield 28, 3) := by decide +kernel
theorem dX7_gets_68 : decode cX7_gets 68 = .ok (.iload 5, 2) := by decide +kernel
theorem dX7_gets_70 : decode cX7_gets 70 = .ok (.aload_n 0, 1) := by decide +kernel
theorem dX7_gets_71 : decode cX7_gets 71 = .ok (.getfield 28, 3) := by decide +kernel
theorem dX7_gets_74 : decode cX7_gets 74 = .ok (.iload 5, 2) := by decide +kernel
theorem dX7_gets_76 : decode cX7_gets 76 = .ok (.iconst 1, 1) := by decide +kernel
theorem dX7_gets_77 : decode cX7_gets 77 = .ok (.isub, 1) := by decide +kernel
theorem dX7_gets_78 : decode cX7_gets 78 = .ok (.iaload, 1) := by decide +kernel
theorem dX7_gets_79 : decode cX7_gets 79 = .ok (.iastore, 1) := by decide +kernel
theorem dX7_gets_80 : decode cX7_gets 80 = .ok (.iinc 5 (-1), 3) := by decide +kernel
theorem dX7_gets_83 : decode cX7_gets 83 = .ok (.goto (-50), 3) := by decide +kernel
theorem dX7_gets_86 : decode cX7_gets 86 = .ok (.aload_n 0, 1) := by decide +kernel
theorem dX7_gets_87 : decode cX7_gets 87 = .ok (.getfield 28, 3) := by decide +kernel
theorem dX7_gets_90 : decode cX7_gets 90 = .ok (.iload 5, 2) := by decide +kernel
theorem dX7_gets_92 : decode cX7_gets 92 = .ok (.iload 4, 2) := by decide +kernel
theorem dX7_gets_94 : decode cX7_gets 94 = .ok (.iastore, 1) := by decide +kernel
theorem dX7_gets_95 : decode cX7_gets 95 = .ok (.iinc 3 1, 3) := by decide +kernel
theorem dX7_gets_98 : decode cX7_gets 98 = .ok (.iinc 4 1, 3) := by decide +kernel
theorem dX7_gets_101 : decode cX7_gets 101 = .ok (.goto (-90), 3) := by decide +kernel
theorem dX7_gets_104 : decode cX7_gets 104 = .ok (.aload_n 0, 1) := by decide +kernel
theorem dX7_gets_105 : decode cX7_gets 105 = .ok (.iload_n 1, 1) := by decide +kernel
theorem dX7_gets_106 : decode cX7_gets 106 = .ok (.invokevirtual 67, 3) := by decide +kernel
theorem dX7_gets_109 : decode cX7_gets 109 = .ok (.iconst 0, 1) := by decide +kernel
theorem dX7_gets_110 : decode cX7_gets 110 = .ok (.istore 4, 2) := by decide +kernel
theorem dX7_gets_112 : decode cX7_gets 112 = .ok (.iload 4, 2) := by decide +kernel
theorem dX7_gets_114 : decode cX7_gets 114 = .ok (.iload_n 3, 1) := by decide +kernel
theorem dX7_gets_115 : decode cX7_gets 115 = .ok (.if_icmp .ge 22, 3) := by decide +kernel
theorem dX7_gets_118 : decode cX7_gets 118 = .ok (.aload_n 0, 1) := by decide +kernel
theorem dX7_gets_119 : decode cX7_gets 119 = .ok (.aload_n 0, 1) := by decide +kernel
theorem dX7_gets_120 : decode cX7_gets 120 = .ok (.getfield 28, 3) := by decide +kernel
theorem dX7_gets_123 : decode cX7_gets 123 = .ok (.iload 4, 2) := by decide +kernel
theorem dX7_gets_125 : decode cX7_gets 125 = .ok (.iaload, 1) := by decide +kernel
theorem dX7_gets_126 : decode cX7_gets 126 = .ok (.iconst 5, 1) := by decide +kernel
theorem dX7_gets_127 : decode cX7_gets 127 = .ok (.iconst 0, 1) := by decide +kernel
theorem dX7_gets_128 : decode cX7_gets 128 = .ok (.invokevirtual 63, 3) := by decide +kernel
theorem dX7_gets_131 : decode cX7_gets 131 = .ok (.iinc 4 1, 3) := by decide +kernel
theorem dX7_gets_134 : decode cX7_gets 134 = .ok (.goto (-22), 3) := by decide +kernel
theorem dX7_gets_137 : decode cX7_gets 137 = .ok (.iconst 0, 1) := by decide +kernel
theorem dX7_gets_138 : decode cX7_gets 138 = .ok (.istore 4, 2) := by decide +kernel
theorem dX7_gets_140 : decode cX7_gets 140 = .ok (.iload 4, 2) := by decide +kernel
theorem dX7_gets_142 : decode cX7_gets 142 = .ok (.iload_n 3, 1) := by decide +kernel
theorem dX7_gets_143 : decode cX7_gets 143 = .ok (.if_icmp .ge 59, 3) := by decide +kernel
theorem dX7_gets_146 : decode cX7_gets 146 = .ok (.aload_n 0, 1) := by decide +kernel
theorem dX7_gets_147 : decode cX7_gets 147 = .ok (.aload_n 0, 1) := by decide +kernel
theorem dX7_gets_148 : decode cX7_gets 148 = .ok (.getfield 28, 3) := by decide +kernel
theorem dX7_gets_151 : decode cX7_gets 151 = .ok (.iload 4, 2) := by decide +kernel
theorem dX7_gets_153 : decode cX7_gets 153 = .ok (.iaload, 1) := by decide +kernel
theorem dX7_gets_154 : decode cX7_gets 154 = .ok (.aload_n 0, 1) := by decide +kernel
theorem dX7_gets_155 : decode cX7_gets 155 = .ok (.aload_n 0, 1) := by decide +kernel
theorem dX7_gets_156 : decode cX7_gets 156 = .ok (.getfield 28, 3) := by decide +kernel
theorem dX7_gets_159 : decode cX7_gets 159 = .ok (.iload 4, 2) := by decide +kernel
theorem dX7_gets_161 : decode cX7_gets 161 = .ok (.iaload, 1) := by decide +kernel
theorem dX7_gets_162 : decode cX7_gets 162 = .ok (.bipush 7, 2) := by decide +kernel
theorem dX7_gets_164 : decode cX7_gets 164 = .ok (.invokevirtual 47, 3) := by decide +kernel
theorem dX7_gets_167 : decode cX7_gets 167 = .ok (.aload_n 0, 1) := by decide +kernel
theorem dX7_gets_168 : decode cX7_gets 168 = .ok (.aload_n 0, 1) := by decide +kernel
theorem dX7_gets_169 : decode cX7_gets 169 = .ok (.getfield 28, 3) := by decide +kernel
theorem dX7_gets_172 : decode cX7_gets 172 = .ok (.iload 4, 2) := by decide +kernel
theorem dX7_gets_174 : decode cX7_gets 174 = .ok (.iaload, 1) := by decide +kernel
theorem dX7_gets_175 : decode cX7_gets 175 = .ok (.bipush 8, 2) := by decide +kernel
theorem dX7_gets_177 : decode cX7_gets 177 = .ok (.invokevirtual 47, 3) := by decide +kernel
theorem dX7_gets_180 : decode cX7_gets 180 = .ok (.aload_n 0, 1) := by decide +kernel
theorem dX7_gets_181 : decode cX7_gets 181 = .ok (.aload_n 0, 1) := by decide +kernel
theorem dX7_gets_182 : decode cX7_gets 182 = .ok (.getfield 28, 3) := by decide +kernel
theorem dX7_gets_185 : decode cX7_gets 185 = .ok (.iload 4, 2) := by decide +kernel
theorem dX7_gets_187 : decode cX7_gets 187 = .ok (.iaload, 1) := by decide +kernel
theorem dX7_gets_188 : decode cX7_gets 188 = .ok (.bipush 6, 2) := by decide +kernel
theorem dX7_gets_190 : decode cX7_gets 190 = .ok (.invokevirtual 47, 3) := by decide +kernel
theorem dX7_gets_193 : decode cX7_gets 193 = .ok (.invokevirtual 107, 3) := by decide +kernel
theorem dX7_gets_196 : decode cX7_gets 196 = .ok (.iinc 4 1, 3) := by decide +kernel
theorem dX7_gets_199 : decode cX7_gets 199 = .ok (.goto (-59), 3) := by decide +kernel
theorem dX7_gets_202 : decode cX7_gets 202 = .ok (.iload_n 3, 1) := by decide +kernel
theorem dX7_gets_203 : decode cX7_gets 203 = .ok (.ireturn, 1) := by decide +kernel
theorem dX7_plays_0 : decode cX7_plays 0 = .ok (.iconst 0, 1) := by decide +kernel
theorem dX7_plays_1 : decode cX7_plays 1 = .ok (.istore_n 2, 1) := by decide +kernel
theorem dX7_plays_2 : decode cX7_plays 2 = .ok (.iconst 1, 1) := by decide +kernel
theorem dX7_plays_3 : decode cX7_plays 3 = .ok (.istore_n 3, 1) := by decide +kernel
theorem dX7_plays_4 : decode cX7_plays 4 = .ok (.iconst 0, 1) := by decide +kernel
theorem dX7_plays_5 : decode cX7_plays 5 = .ok (.istore 4, 2) := by decide +kernel
theorem dX7_plays_7 : decode cX7_plays 7 = .ok (.iload 4, 2) := by decide +kernel
theorem dX7_plays_9 : decode cX7_plays 9 = .ok (.bipush 10, 2) := by decide +kernel
theorem dX7_plays_11 : decode cX7_plays 11 = .ok (.if_icmp .ge 73, 3) := by decide +kernel
theorem dX7_plays_14 : decode cX7_plays 14 = .ok (.iconst 0, 1) := by decide +kernel
theorem dX7_plays_15 : decode cX7_plays 15 = .ok (.istore 5, 2) := by decide +kernel
theorem dX7_plays_17 : decode cX7_plays 17 = .ok (.iload 5, 2) := by decide +kernel
theorem dX7_plays_19 : decode cX7_plays 19 = .ok (.aload_n 0, 1) := by decide +kernel
theorem dX7_plays_20 : decode cX7_plays 20 = .ok (.invokevirtual 39, 3) := by decide +kernel
theorem dX7_plays_23 : decode cX7_plays 23 = .ok (.if_icmp .ge 55, 3) := by decide +kernel
theorem dX7_plays_26 : decode cX7_plays 26 = .ok (.iload_n 3, 1) := by decide +kernel
theorem dX7_plays_27 : decode cX7_plays 27 = .ok (.ifCond .eq 45, 3) := by decide +kernel
theorem dX7_plays_30 : decode cX7_plays 30 = .ok (.aload_n 0, 1) := by decide +kernel
theorem dX7_plays_31 : decode cX7_plays 31 = .ok (.iload 5, 2) := by decide +kernel
theorem dX7_plays_33 : decode cX7_plays 33 = .ok (.invokevirtual 71, 3) := by decide +kernel
theorem dX7_plays_36 : decode cX7_plays 36 = .ok (.ifCond .eq 36, 3) := by decide +kernel
theorem dX7_plays_39 : decode cX7_plays 39 = .ok (.aload_n 0, 1) := by decide +kernel
theorem dX7_plays_40 : decode cX7_plays 40 = .ok (.iload 5, 2) := by decide +kernel
theorem dX7_plays_42 : decode cX7_plays 42 = .ok (.iconst 3, 1) := by decide +kernel
theorem dX7_plays_43 : decode cX7_plays 43 = .ok (.invokevirtual 47, 3) := by decide +kernel
theorem dX7_plays_46 : decode cX7_plays 46 = .ok (.iload 4, 2) := by decide +kernel
theorem dX7_plays_48 : decode cX7_plays 48 = .ok (.if_icmp .ne 24, 3) := by decide +kernel
theorem dX7_plays_51 : decode cX7_plays 51 = .ok (.iload_n 2, 1) := by decide +kernel
theorem dX7_plays_52 : decode cX7_plays 52 = .ok (.aload_n 0, 1) := by decide +kernel
theorem dX7_plays_53 : decode cX7_plays 53 = .ok (.iload 5, 2) := by decide +kernel
theorem dX7_plays_55 : decode cX7_plays 55 = .ok (.invokevirtual 226, 3) := by decide +kernel
theorem dX7_plays_58 : decode cX7_plays 58 = .ok (.iadd, 1) := by decide +kernel
theorem dX7_plays_59 : decode cX7_plays 59 = .ok (.istore_n 2, 1) := by decide +kernel
theorem dX7_plays_60 : decode cX7_plays 60 = .ok (.iload 5, 2) := by decide +kernel
theorem dX7_plays_62 : decode cX7_plays 62 = .ok (.iload_n 1, 1) := by decide +kernel
theorem dX7_plays_63 : decode cX7_plays 63 = .ok (.if_icmp .eq 7, 3) := by decide +kernel
theorem dX7_plays_66 : decode cX7_plays 66 = .ok (.iconst 1, 1) := by decide +kernel
theorem dX7_plays_67 : decode cX7_plays 67 = .ok (.goto 4, 3) := by decide +kernel
theorem dX7_plays_70 : decode cX7_plays 70 = .ok (.iconst 0, 1) := by decide +kernel
theorem dX7_plays_71 : decode cX7_plays 71 = .ok (.istore_n 3, 1) := by decide +kernel
theorem dX7_plays_72 : decode cX7_plays 72 = .ok (.iinc 5 1, 3) := by decide +kernel
theorem dX7_plays_75 : decode cX7_plays 75 = .ok (.goto (-58), 3) := by decide +kernel
theorem dX7_plays_78 : decode cX7_plays 78 = .ok (.iinc 4 1, 3) := by decide +kernel
theorem dX7_plays_81 : decode cX7_plays 81 = .ok (.goto (-74), 3) := by decide +kernel
theorem dX7_plays_84 : decode cX7_plays 84 = .ok (.iload_n 2, 1) := by decide +kernel
theorem dX7_plays_85 : decode cX7_plays 85 = .ok (.ireturn, 1) := by decide +kernel
theorem dX7_play_0 : decode cX7_play 0 = .ok (.aload_n 0, 1) := by decide +kernel
theorem dX7_play_1 : decode cX7_play 1 = .ok (.invokevirtual 104, 3) := by decide +kernel
theorem dX7_play_4 : decode cX7_play 4 = .ok (.aload_n 0, 1) := by decide +kernel
theorem dX7_play_5 : decode cX7_play 5 = .ok (.bipush (-9), 2) := by decide +kernel
theorem dX7_play_7 : decode cX7_play 7 = .ok (.invokevirtual 229, 3) := by decide +kernel
theorem dX7_play_10 : decode cX7_play 10 = .ok (.ireturn, 1) := by decide +kernel
theorem dX7_liftsTo_0 : decode cX7_liftsTo 0 = .ok (.aload_n 0, 1) := by decide +kernel
theorem dX7_liftsTo_1 : decode cX7_liftsTo 1 = .ok (.iload_n 1, 1) := by decide +kernel
theorem dX7_liftsTo_2 : decode cX7_liftsTo 2 = .ok (.invokevirtual 94, 3) := by decide +kernel
theorem dX7_liftsTo_5 : decode cX7_liftsTo 5 = .ok (.ifCond .ne 5, 3) := by decide +kernel
theorem dX7_liftsTo_8 : decode cX7_liftsTo 8 = .ok (.iconst (-1), 1) := by decide +kernel
theorem dX7_liftsTo_9 : decode cX7_liftsTo 9 = .ok (.ireturn, 1) := by decide +kernel
theorem dX7_liftsTo_10 : decode cX7_liftsTo 10 = .ok (.aload_n 0, 1) := by decide +kernel
theorem dX7_liftsTo_11 : decode cX7_liftsTo 11 = .ok (.iload_n 1, 1) := by decide +kernel
theorem dX7_liftsTo_12 : decode cX7_liftsTo 12 = .ok (.invokevirtual 71, 3) := by decide +kernel
theorem dX7_liftsTo_15 : decode cX7_liftsTo 15 = .ok (.ifCond .ne 6, 3) := by decide +kernel
theorem dX7_liftsTo_18 : decode cX7_liftsTo 18 = .ok (.bipush (-2), 2) := by decide +kernel
theorem dX7_liftsTo_20 : decode cX7_liftsTo 20 = .ok (.ireturn, 1) := by decide +kernel
theorem dX7_liftsTo_21 : decode cX7_liftsTo 21 = .ok (.aload_n 0, 1) := by decide +kernel
theorem dX7_liftsTo_22 : decode cX7_liftsTo 22 = .ok (.iconst 0, 1) := by decide +kernel
theorem dX7_liftsTo_23 : decode cX7_liftsTo 23 = .ok (.bipush 10, 2) := by decide +kernel
theorem dX7_liftsTo_25 : decode cX7_liftsTo 25 = .ok (.invokevirtual 35, 3) := by decide +kernel
theorem dX7_liftsTo_28 : decode cX7_liftsTo 28 = .ok (.aload_n 0, 1) := by decide +kernel
theorem dX7_liftsTo_29 : decode cX7_liftsTo 29 = .ok (.iload_n 1, 1) := by decide +kernel
theorem dX7_liftsTo_30 : decode cX7_liftsTo 30 = .ok (.invokevirtual 229, 3) := by decide +kernel
theorem dX7_liftsTo_33 : decode cX7_liftsTo 33 = .ok (.istore_n 2, 1) := by decide +kernel
theorem dX7_liftsTo_34 : decode cX7_liftsTo 34 = .ok (.aload_n 0, 1) := by decide +kernel
theorem dX7_liftsTo_35 : decode cX7_liftsTo 35 = .ok (.bipush 10, 2) := by decide +kernel
theorem dX7_liftsTo_37 : decode cX7_liftsTo 37 = .ok (.iconst 0, 1) := by decide +kernel
theorem dX7_liftsTo_38 : decode cX7_liftsTo 38 = .ok (.invokevirtual 35, 3) := by decide +kernel
theorem dX7_liftsTo_41 : decode cX7_liftsTo 41 = .ok (.iload_n 2, 1) := by decide +kernel
theorem dX7_liftsTo_42 : decode cX7_liftsTo 42 = .ok (.ireturn, 1) := by decide +kernel
theorem dX7_count_0 : decode cX7_count 0 = .ok (.iload_n 1, 1) := by decide +kernel
theorem dX7_count_1 : decode cX7_count 1 = .ok (.tableswitch 114 0 12 #[67, 67, 67, 67, 67, 74, 79, 84, 89, 94, 99, 104, 109], 67) := by decide +kernel
theorem dX7_count_68 : decode cX7_count 68 = .ok (.aload_n 0, 1) := by decide +kernel
theorem dX7_count_69 : decode cX7_count 69 = .ok (.getfield 7, 3) := by decide +kernel
theorem dX7_count_72 : decode cX7_count 72 = .ok (.iload_n 1, 1) := by decide +kernel
theorem dX7_count_73 : decode cX7_count 73 = .ok (.iaload, 1) := by decide +kernel
theorem dX7_count_74 : decode cX7_count 74 = .ok (.ireturn, 1) := by decide +kernel
theorem dX7_count_75 : decode cX7_count 75 = .ok (.aload_n 0, 1) := by decide +kernel
theorem dX7_count_76 : decode cX7_count 76 = .ok (.invokevirtual 169, 3) := by decide +kernel
theorem dX7_count_79 : decode cX7_count 79 = .ok (.ireturn, 1) := by decide +kernel
theorem dX7_count_80 : decode cX7_count 80 = .ok (.aload_n 0, 1) := by decide +kernel
theorem dX7_count_81 : decode cX7_count 81 = .ok (.invokevirtual 232, 3) := by decide +kernel
theorem dX7_count_84 : decode cX7_count 84 = .ok (.ireturn, 1) := by decide +kernel
theorem dX7_count_85 : decode cX7_count 85 = .ok (.aload_n 0, 1) := by decide +kernel
theorem dX7_count_86 : decode cX7_count 86 = .ok (.invokevirtual 127, 3) := by decide +kernel
theorem dX7_count_89 : decode cX7_count 89 = .ok (.ireturn, 1) := by decide +kernel
theorem dX7_count_90 : decode cX7_count 90 = .ok (.aload_n 0, 1) := by decide +kernel
theorem dX7_count_91 : decode cX7_count 91 = .ok (.invokevirtual 205, 3) := by decide +kernel
theorem dX7_count_94 : decode cX7_count 94 = .ok (.ireturn, 1) := by decide +kernel
theorem dX7_count_95 : decode cX7_count 95 = .ok (.aload_n 0, 1) := by decide +kernel
theorem dX7_count_96 : decode cX7_count 96 = .ok (.invokevirtual 202, 3) := by decide +kernel
theorem dX7_count_99 : decode cX7_count 99 = .ok (.ireturn, 1) := by decide +kernel
theorem dX7_count_100 : decode cX7_count 100 = .ok (.aload_n 0, 1) := by decide +kernel
theorem dX7_count_101 : decode cX7_count 101 = .ok (.invokevirtual 235, 3) := by decide +kernel
theorem dX7_count_104 : decode cX7_count 104 = .ok (.ireturn, 1) := by decide +kernel
theorem dX7_count_105 : decode cX7_count 105 = .ok (.aload_n 0, 1) := by decide +kernel
theorem dX7_count_106 : decode cX7_count 106 = .ok (.getfield 130, 3) := by decide +kernel
theorem dX7_count_109 : decode cX7_count 109 = .ok (.ireturn, 1) := by decide +kernel
theorem dX7_count_110 : decode cX7_count 110 = .ok (.aload_n 0, 1) := by decide +kernel
theorem dX7_count_111 : decode cX7_count 111 = .ok (.getfield 31, 3) := by decide +kernel
theorem dX7_count_114 : decode cX7_count 114 = .ok (.ireturn, 1) := by decide +kernel
theorem dX7_count_115 : decode cX7_count 115 = .ok (.iconst (-1), 1) := by decide +kernel
theorem dX7_count_116 : decode cX7_count 116 = .ok (.ireturn, 1) := by decide +kernel
theorem dX7_mixes_0 : decode cX7_mixes 0 = .ok (.aload_n 0, 1) := by decide +kernel
theorem dX7_mixes_1 : decode cX7_mixes 1 = .ok (.ldc2_w 238, 3) := by decide +kernel
theorem dX7_mixes_4 : decode cX7_mixes 4 = .ok (.aload_n 0, 1) := by decide +kernel
theorem dX7_mixes_5 : decode cX7_mixes 5 = .ok (.getfield 240, 3) := by decide +kernel
theorem dX7_mixes_8 : decode cX7_mixes 8 = .ok (.lmul, 1) := by decide +kernel
theorem dX7_mixes_9 : decode cX7_mixes 9 = .ok (.iload_n 1, 1) := by decide +kernel
theorem dX7_mixes_10 : decode cX7_mixes 10 = .ok (.i2l, 1) := by decide +kernel
theorem dX7_mixes_11 : decode cX7_mixes 11 = .ok (.ladd, 1) := by decide +kernel
theorem dX7_mixes_12 : decode cX7_mixes 12 = .ok (.putfield 240, 3) := by decide +kernel
theorem dX7_mixes_15 : decode cX7_mixes 15 = .ok (.return_, 1) := by decide +kernel
theorem dX7_digest_0 : decode cX7_digest 0 = .ok (.aload_n 0, 1) := by decide +kernel
theorem dX7_digest_1 : decode cX7_digest 1 = .ok (.ldc2_w 244, 3) := by decide +kernel
theorem dX7_digest_4 : decode cX7_digest 4 = .ok (.putfield 240, 3) := by decide +kernel
theorem dX7_digest_7 : decode cX7_digest 7 = .ok (.iconst 0, 1) := by decide +kernel
theorem dX7_digest_8 : decode cX7_digest 8 = .ok (.istore_n 1, 1) := by decide +kernel
theorem dX7_digest_9 : decode cX7_digest 9 = .ok (.iload_n 1, 1) := by decide +kernel
theorem dX7_digest_10 : decode cX7_digest 10 = .ok (.bipush 13, 2) := by decide +kernel
theorem dX7_digest_12 : decode cX7_digest 12 = .ok (.if_icmp .ge 18, 3) := by decide +kernel
theorem dX7_digest_15 : decode cX7_digest 15 = .ok (.aload_n 0, 1) := by decide +kernel
theorem dX7_digest_16 : decode cX7_digest 16 = .ok (.aload_n 0, 1) := by decide +kernel
theorem dX7_digest_17 : decode cX7_digest 17 = .ok (.iload_n 1, 1) := by decide +kernel
theorem dX7_digest_18 : decode cX7_digest 18 = .ok (.invokevirtual 246, 3) := by decide +kernel
theorem dX7_digest_21 : decode cX7_digest 21 = .ok (.invokevirtual 249, 3) := by decide +kernel
theorem dX7_digest_24 : decode cX7_digest 24 = .ok (.iinc 1 1, 3) := by decide +kernel
theorem dX7_digest_27 : decode cX7_digest 27 = .ok (.goto (-18), 3) := by decide +kernel
theorem dX7_digest_30 : decode cX7_digest 30 = .ok (.iconst 0, 1) := by decide +kernel
theorem dX7_digest_31 : decode cX7_digest 31 = .ok (.istore_n 1, 1) := by decide +kernel
theorem dX7_digest_32 : decode cX7_digest 32 = .ok (.iload_n 1, 1) := by decide +kernel
theorem dX7_digest_33 : decode cX7_digest 33 = .ok (.aload_n 0, 1) := by decide +kernel
theorem dX7_digest_34 : decode cX7_digest 34 = .ok (.invokevirtual 39, 3) := by decide +kernel
theorem dX7_digest_37 : decode cX7_digest 37 = .ok (.if_icmp .ge 53, 3) := by decide +kernel
theorem dX7_digest_40 : decode cX7_digest 40 = .ok (.iconst 0, 1) := by decide +kernel
theorem dX7_digest_41 : decode cX7_digest 41 = .ok (.istore_n 2, 1) := by decide +kernel
theorem dX7_digest_42 : decode cX7_digest 42 = .ok (.iload_n 2, 1) := by decide +kernel
theorem dX7_digest_43 : decode cX7_digest 43 = .ok (.bipush 16, 2) := by decide +kernel
theorem dX7_digest_45 : decode cX7_digest 45 = .ok (.if_icmp .ge 19, 3) := by decide +kernel
theorem dX7_digest_48 : decode cX7_digest 48 = .ok (.aload_n 0, 1) := by decide +kernel
theorem dX7_digest_49 : decode cX7_digest 49 = .ok (.aload_n 0, 1) := by decide +kernel
theorem dX7_digest_50 : decode cX7_digest 50 = .ok (.iload_n 1, 1) := by decide +kernel
theorem dX7_digest_51 : decode cX7_digest 51 = .ok (.iload_n 2, 1) := by decide +kernel
theorem dX7_digest_52 : decode cX7_digest 52 = .ok (.invokevirtual 252, 3) := by decide +kernel
theorem dX7_digest_55 : decode cX7_digest 55 = .ok (.invokevirtual 249, 3) := by decide +kernel
theorem dX7_digest_58 : decode cX7_digest 58 = .ok (.iinc 2 1, 3) := by decide +kernel
theorem dX7_digest_61 : decode cX7_digest 61 = .ok (.goto (-19), 3) := by decide +kernel
theorem dX7_digest_64 : decode cX7_digest 64 = .ok (.aload_n 0, 1) := by decide +kernel
theorem dX7_digest_65 : decode cX7_digest 65 = .ok (.aload_n 0, 1) := by decide +kernel
theorem dX7_digest_66 : decode cX7_digest 66 = .ok (.iload_n 1, 1) := by decide +kernel
theorem dX7_digest_67 : decode cX7_digest 67 = .ok (.iconst 0, 1) := by decide +kernel
theorem dX7_digest_68 : decode cX7_digest 68 = .ok (.invokevirtual 255, 3) := by decide +kernel
theorem dX7_digest_71 : decode cX7_digest 71 = .ok (.invokevirtual 249, 3) := by decide +kernel
theorem dX7_digest_74 : decode cX7_digest 74 = .ok (.aload_n 0, 1) := by decide +kernel
theorem dX7_digest_75 : decode cX7_digest 75 = .ok (.aload_n 0, 1) := by decide +kernel
theorem dX7_digest_76 : decode cX7_digest 76 = .ok (.iload_n 1, 1) := by decide +kernel
theorem dX7_digest_77 : decode cX7_digest 77 = .ok (.iconst 3, 1) := by decide +kernel
theorem dX7_digest_78 : decode cX7_digest 78 = .ok (.invokevirtual 255, 3) := by decide +kernel
theorem dX7_digest_81 : decode cX7_digest 81 = .ok (.invokevirtual 249, 3) := by decide +kernel
theorem dX7_digest_84 : decode cX7_digest 84 = .ok (.iinc 1 1, 3) := by decide +kernel
theorem dX7_digest_87 : decode cX7_digest 87 = .ok (.goto (-55), 3) := by decide +kernel
theorem dX7_digest_90 : decode cX7_digest 90 = .ok (.iconst 0, 1) := by decide +kernel
theorem dX7_digest_91 : decode cX7_digest 91 = .ok (.istore_n 1, 1) := by decide +kernel
theorem dX7_digest_92 : decode cX7_digest 92 = .ok (.iload_n 1, 1) := by decide +kernel
theorem dX7_digest_93 : decode cX7_digest 93 = .ok (.aload_n 0, 1) := by decide +kernel
theorem dX7_digest_94 : decode cX7_digest 94 = .ok (.getfield 7, 3) := by decide +kernel
theorem dX7_digest_97 : decode cX7_digest 97 = .ok (.iconst 0, 1) := by decide +kernel
theorem dX7_digest_98 : decode cX7_digest 98 = .ok (.iaload, 1) := by decide +kernel
theorem dX7_digest_99 : decode cX7_digest 99 = .ok (.if_icmp .ge 49, 3) := by decide +kernel
theorem dX7_digest_102 : decode cX7_digest 102 = .ok (.iconst 0, 1) := by decide +kernel
theorem dX7_digest_103 : decode cX7_digest 103 = .ok (.istore_n 2, 1) := by decide +kernel
theorem dX7_digest_104 : decode cX7_digest 104 = .ok (.iload_n 2, 1) := by decide +kernel
theorem dX7_digest_105 : decode cX7_digest 105 = .ok (.aload_n 0, 1) := by decide +kernel
theorem dX7_digest_106 : decode cX7_digest 106 = .ok (.getfield 7, 3) := by decide +kernel
theorem dX7_digest_109 : decode cX7_digest 109 = .ok (.iconst 1, 1) := by decide +kernel
theorem dX7_digest_110 : decode cX7_digest 110 = .ok (.iaload, 1) := by decide +kernel
theorem dX7_digest_111 : decode cX7_digest 111 = .ok (.if_icmp .ge 31, 3) := by decide +kernel
theorem dX7_digest_114 : decode cX7_digest 114 = .ok (.aload_n 0, 1) := by decide +kernel
theorem dX7_digest_115 : decode cX7_digest 115 = .ok (.aload_n 0, 1) := by decide +kernel
theorem dX7_digest_116 : decode cX7_digest 116 = .ok (.iload_n 1, 1) := by decide +kernel
theorem dX7_digest_117 : decode cX7_digest 117 = .ok (.iload_n 2, 1) := by decide +kernel
theorem dX7_digest_118 : decode cX7_digest 118 = .ok (.iconst 0, 1) := by decide +kernel
theorem dX7_digest_119 : decode cX7_digest 119 = .ok (.invokevirtual 258, 3) := by decide +kernel
theorem dX7_digest_122 : decode cX7_digest 122 = .ok (.invokevirtual 249, 3) := by decide +kernel
theorem dX7_digest_125 : decode cX7_digest 125 = .ok (.aload_n 0, 1) := by decide +kernel
theorem dX7_digest_126 : decode cX7_digest 126 = .ok (.aload_n 0, 1) := by decide +kernel
theorem dX7_digest_127 : decode cX7_digest 127 = .ok (.iload_n 1, 1) := by decide +kernel
theorem dX7_digest_128 : decode cX7_digest 128 = .ok (.iload_n 2, 1) := by decide +kernel
theorem dX7_digest_129 : decode cX7_digest 129 = .ok (.iconst 1, 1) := by decide +kernel
theorem dX7_digest_130 : decode cX7_digest 130 = .ok (.invokevirtual 258, 3) := by decide +kernel
theorem dX7_digest_133 : decode cX7_digest 133 = .ok (.invokevirtual 249, 3) := by decide +kernel
theorem dX7_digest_136 : decode cX7_digest 136 = .ok (.iinc 2 1, 3) := by decide +kernel
theorem dX7_digest_139 : decode cX7_digest 139 = .ok (.goto (-35), 3) := by decide +kernel
theorem dX7_digest_142 : decode cX7_digest 142 = .ok (.iinc 1 1, 3) := by decide +kernel
theorem dX7_digest_145 : decode cX7_digest 145 = .ok (.goto (-53), 3) := by decide +kernel
theorem dX7_digest_148 : decode cX7_digest 148 = .ok (.iconst 0, 1) := by decide +kernel
theorem dX7_digest_149 : decode cX7_digest 149 = .ok (.istore_n 1, 1) := by decide +kernel
theorem dX7_digest_150 : decode cX7_digest 150 = .ok (.iload_n 1, 1) := by decide +kernel
theorem dX7_digest_151 : decode cX7_digest 151 = .ok (.iconst 4, 1) := by decide +kernel
theorem dX7_digest_152 : decode cX7_digest 152 = .ok (.if_icmp .ge 19, 3) := by decide +kernel
theorem dX7_digest_155 : decode cX7_digest 155 = .ok (.aload_n 0, 1) := by decide +kernel
theorem dX7_digest_156 : decode cX7_digest 156 = .ok (.aload_n 0, 1) := by decide +kernel
theorem dX7_digest_157 : decode cX7_digest 157 = .ok (.iconst 0, 1) := by decide +kernel
theorem dX7_digest_158 : decode cX7_digest 158 = .ok (.iload_n 1, 1) := by decide +kernel
theorem dX7_digest_159 : decode cX7_digest 159 = .ok (.invokevirtual 262, 3) := by decide +kernel
theorem dX7_digest_162 : decode cX7_digest 162 = .ok (.invokevirtual 249, 3) := by decide +kernel
theorem dX7_digest_165 : decode cX7_digest 165 = .ok (.iinc 1 1, 3) := by decide +kernel
theorem dX7_digest_168 : decode cX7_digest 168 = .ok (.goto (-18), 3) := by decide +kernel
theorem dX7_digest_171 : decode cX7_digest 171 = .ok (.iconst 0, 1) := by decide +kernel
theorem dX7_digest_172 : decode cX7_digest 172 = .ok (.istore_n 1, 1) := by decide +kernel
theorem dX7_digest_173 : decode cX7_digest 173 = .ok (.iload_n 1, 1) := by decide +kernel
theorem dX7_digest_174 : decode cX7_digest 174 = .ok (.aload_n 0, 1) := by decide +kernel
theorem dX7_digest_175 : decode cX7_digest 175 = .ok (.invokevirtual 39, 3) := by decide +kernel
theorem dX7_digest_178 : decode cX7_digest 178 = .ok (.if_icmp .ge 26, 3) := by decide +kernel
theorem dX7_digest_181 : decode cX7_digest 181 = .ok (.aload_n 0, 1) := by decide +kernel
theorem dX7_digest_182 : decode cX7_digest 182 = .ok (.iload_n 1, 1) := by decide +kernel
theorem dX7_digest_183 : decode cX7_digest 183 = .ok (.invokevirtual 71, 3) := by decide +kernel
theorem dX7_digest_186 : decode cX7_digest 186 = .ok (.ifCond .eq 12, 3) := by decide +kernel
theorem dX7_digest_189 : decode cX7_digest 189 = .ok (.aload_n 0, 1) := by decide +kernel
theorem dX7_digest_190 : decode cX7_digest 190 = .ok (.aload_n 0, 1) := by decide +kernel
theorem dX7_digest_191 : decode cX7_digest 191 = .ok (.iload_n 1, 1) := by decide +kernel
theorem dX7_digest_192 : decode cX7_digest 192 = .ok (.invokevirtual 266, 3) := by decide +kernel
theorem dX7_digest_195 : decode cX7_digest 195 = .ok (.invokevirtual 249, 3) := by decide +kernel
theorem dX7_digest_198 : decode cX7_digest 198 = .ok (.iinc 1 1, 3) := by decide +kernel
theorem dX7_digest_201 : decode cX7_digest 201 = .ok (.goto (-28), 3) := by decide +kernel
theorem dX7_digest_204 : decode cX7_digest 204 = .ok (.aload_n 0, 1) := by decide +kernel
theorem dX7_digest_205 : decode cX7_digest 205 = .ok (.getfield 240, 3) := by decide +kernel
theorem dX7_digest_208 : decode cX7_digest 208 = .ok (.lreturn, 1) := by decide +kernel
theorem dJ6_bitCount_0f7a4_0 : decode cJ6_bitCount_0f7a4 0 = .ok (.iload_n 0, 1) := by decide +kernel
theorem dJ6_bitCount_0f7a4_1 : decode cJ6_bitCount_0f7a4 1 = .ok (.iload_n 0, 1) := by decide +kernel
theorem dJ6_bitCount_0f7a4_2 : decode cJ6_bitCount_0f7a4 2 = .ok (.iconst 1, 1) := by decide +kernel
theorem dJ6_bitCount_0f7a4_3 : decode cJ6_bitCount_0f7a4 3 = .ok (.iushr, 1) := by decide +kernel
theorem dJ6_bitCount_0f7a4_4 : decode cJ6_bitCount_0f7a4 4 = .ok (.ldc_w 265, 3) := by decide +kernel
theorem dJ6_bitCount_0f7a4_7 : decode cJ6_bitCount_0f7a4 7 = .ok (.iand, 1) := by decide +kernel
theorem dJ6_bitCount_0f7a4_8 : decode cJ6_bitCount_0f7a4 8 = .ok (.isub, 1) := by decide +kernel
theorem dJ6_bitCount_0f7a4_9 : decode cJ6_bitCount_0f7a4 9 = .ok (.istore_n 0, 1) := by decide +kernel
theorem dJ6_bitCount_0f7a4_10 : decode cJ6_bitCount_0f7a4 10 = .ok (.iload_n 0, 1) := by decide +kernel
theorem dJ6_bitCount_0f7a4_11 : decode cJ6_bitCount_0f7a4 11 = .ok (.ldc_w 266, 3) := by decide +kernel
theorem dJ6_bitCount_0f7a4_14 : decode cJ6_bitCount_0f7a4 14 = .ok (.iand, 1) := by decide +kernel
theorem dJ6_bitCount_0f7a4_15 : decode cJ6_bitCount_0f7a4 15 = .ok (.iload_n 0, 1) := by decide +kernel
theorem dJ6_bitCount_0f7a4_16 : decode cJ6_bitCount_0f7a4 16 = .ok (.iconst 2, 1) := by decide +kernel
theorem dJ6_bitCount_0f7a4_17 : decode cJ6_bitCount_0f7a4 17 = .ok (.iushr, 1) := by decide +kernel
theorem dJ6_bitCount_0f7a4_18 : decode cJ6_bitCount_0f7a4 18 = .ok (.ldc_w 266, 3) := by decide +kernel
theorem dJ6_bitCount_0f7a4_21 : decode cJ6_bitCount_0f7a4 21 = .ok (.iand, 1) := by decide +kernel
theorem dJ6_bitCount_0f7a4_22 : decode cJ6_bitCount_0f7a4 22 = .ok (.iadd, 1) := by decide +kernel
theorem dJ6_bitCount_0f7a4_23 : decode cJ6_bitCount_0f7a4 23 = .ok (.istore_n 0, 1) := by decide +kernel
theorem dJ6_bitCount_0f7a4_24 : decode cJ6_bitCount_0f7a4 24 = .ok (.iload_n 0, 1) := by decide +kernel
theorem dJ6_bitCount_0f7a4_25 : decode cJ6_bitCount_0f7a4 25 = .ok (.iload_n 0, 1) := by decide +kernel
theorem dJ6_bitCount_0f7a4_26 : decode cJ6_bitCount_0f7a4 26 = .ok (.iconst 4, 1) := by decide +kernel
theorem dJ6_bitCount_0f7a4_27 : decode cJ6_bitCount_0f7a4 27 = .ok (.iushr, 1) := by decide +kernel
theorem dJ6_bitCount_0f7a4_28 : decode cJ6_bitCount_0f7a4 28 = .ok (.iadd, 1) := by decide +kernel
theorem dJ6_bitCount_0f7a4_29 : decode cJ6_bitCount_0f7a4 29 = .ok (.ldc_w 267, 3) := by decide +kernel
theorem dJ6_bitCount_0f7a4_32 : decode cJ6_bitCount_0f7a4 32 = .ok (.iand, 1) := by decide +kernel
theorem dJ6_bitCount_0f7a4_33 : decode cJ6_bitCount_0f7a4 33 = .ok (.istore_n 0, 1) := by decide +kernel
theorem dJ6_bitCount_0f7a4_34 : decode cJ6_bitCount_0f7a4 34 = .ok (.iload_n 0, 1) := by decide +kernel
theorem dJ6_bitCount_0f7a4_35 : decode cJ6_bitCount_0f7a4 35 = .ok (.iload_n 0, 1) := by decide +kernel
theorem dJ6_bitCount_0f7a4_36 : decode cJ6_bitCount_0f7a4 36 = .ok (.bipush 8, 2) := by decide +kernel
theorem dJ6_bitCount_0f7a4_38 : decode cJ6_bitCount_0f7a4 38 = .ok (.iushr, 1) := by decide +kernel
theorem dJ6_bitCount_0f7a4_39 : decode cJ6_bitCount_0f7a4 39 = .ok (.iadd, 1) := by decide +kernel
theorem dJ6_bitCount_0f7a4_40 : decode cJ6_bitCount_0f7a4 40 = .ok (.istore_n 0, 1) := by decide +kernel
theorem dJ6_bitCount_0f7a4_41 : decode cJ6_bitCount_0f7a4 41 = .ok (.iload_n 0, 1) := by decide +kernel
theorem dJ6_bitCount_0f7a4_42 : decode cJ6_bitCount_0f7a4 42 = .ok (.iload_n 0, 1) := by decide +kernel
theorem dJ6_bitCount_0f7a4_43 : decode cJ6_bitCount_0f7a4 43 = .ok (.bipush 16, 2) := by decide +kernel
theorem dJ6_bitCount_0f7a4_45 : decode cJ6_bitCount_0f7a4 45 = .ok (.iushr, 1) := by decide +kernel
theorem dJ6_bitCount_0f7a4_46 : decode cJ6_bitCount_0f7a4 46 = .ok (.iadd, 1) := by decide +kernel
theorem dJ6_bitCount_0f7a4_47 : decode cJ6_bitCount_0f7a4 47 = .ok (.istore_n 0, 1) := by decide +kernel
theorem dJ6_bitCount_0f7a4_48 : decode cJ6_bitCount_0f7a4 48 = .ok (.iload_n 0, 1) := by decide +kernel
theorem dJ6_bitCount_0f7a4_49 : decode cJ6_bitCount_0f7a4 49 = .ok (.bipush 63, 2) := by decide +kernel
theorem dJ6_bitCount_0f7a4_51 : decode cJ6_bitCount_0f7a4 51 = .ok (.iand, 1) := by decide +kernel
theorem dJ6_bitCount_0f7a4_52 : decode cJ6_bitCount_0f7a4 52 = .ok (.ireturn, 1) := by decide +kernel
theorem dJ9_max_7cf53_0 : decode cJ9_max_7cf53 0 = .ok (.iload_n 0, 1) := by decide +kernel
theorem dJ9_max_7cf53_1 : decode cJ9_max_7cf53 1 = .ok (.iload_n 1, 1) := by decide +kernel
theorem dJ9_max_7cf53_2 : decode cJ9_max_7cf53 2 = .ok (.if_icmp .lt 7, 3) := by decide +kernel
theorem dJ9_max_7cf53_5 : decode cJ9_max_7cf53 5 = .ok (.iload_n 0, 1) := by decide +kernel
theorem dJ9_max_7cf53_6 : decode cJ9_max_7cf53 6 = .ok (.goto 4, 3) := by decide +kernel
theorem dJ9_max_7cf53_9 : decode cJ9_max_7cf53 9 = .ok (.iload_n 1, 1) := by decide +kernel
theorem dJ9_max_7cf53_10 : decode cJ9_max_7cf53 10 = .ok (.ireturn, 1) := by decide +kernel
theorem dL_law_0 : decode cL_law 0 = .ok (.new 7, 3) := by decide +kernel
theorem dL_law_3 : decode cL_law 3 = .ok (.dup, 1) := by decide +kernel
theorem dL_law_4 : decode cL_law 4 = .ok (.invokespecial 9, 3) := by decide +kernel
theorem dL_law_7 : decode cL_law 7 = .ok (.astore_n 1, 1) := by decide +kernel
theorem dL_law_8 : decode cL_law 8 = .ok (.new 10, 3) := by decide +kernel
theorem dL_law_11 : decode cL_law 11 = .ok (.dup, 1) := by decide +kernel
theorem dL_law_12 : decode cL_law 12 = .ok (.invokespecial 12, 3) := by decide +kernel
theorem dL_law_15 : decode cL_law 15 = .ok (.astore_n 2, 1) := by decide +kernel
theorem dL_law_16 : decode cL_law 16 = .ok (.iconst 0, 1) := by decide +kernel
theorem dL_law_17 : decode cL_law 17 = .ok (.istore_n 3, 1) := by decide +kernel
theorem dL_law_18 : decode cL_law 18 = .ok (.iload_n 3, 1) := by decide +kernel
theorem dL_law_19 : decode cL_law 19 = .ok (.aload_n 0, 1) := by decide +kernel
theorem dL_law_20 : decode cL_law 20 = .ok (.arraylength, 1) := by decide +kernel
theorem dL_law_21 : decode cL_law 21 = .ok (.iconst 5, 1) := by decide +kernel
theorem dL_law_22 : decode cL_law 22 = .ok (.isub, 1) := by decide +kernel
theorem dL_law_23 : decode cL_law 23 = .ok (.if_icmp .gt 788, 3) := by decide +kernel
theorem dL_law_26 : decode cL_law 26 = .ok (.aload_n 0, 1) := by decide +kernel
theorem dL_law_27 : decode cL_law 27 = .ok (.iload_n 3, 1) := by decide +kernel
theorem dL_law_28 : decode cL_law 28 = .ok (.iaload, 1) := by decide +kernel
theorem dL_law_29 : decode cL_law 29 = .ok (.bipush 31, 2) := by decide +kernel
theorem dL_law_31 : decode cL_law 31 = .ok (.iand, 1) := by decide +kernel
theorem dL_law_32 : decode cL_law 32 = .ok (.tableswitch 773 0 23 #[112, 155, 178, 201, 214, 227, 240, 293, 316, 359, 428, 451, 464, 497, 556, 589, 612, 625, 638, 687, 700, 723, 736, 759], 112) := by decide +kernel
theorem dL_law_144 : decode cL_law 144 = .ok (.aload_n 1, 1) := by decide +kernel
theorem dL_law_145 : decode cL_law 145 = .ok (.aload_n 0, 1) := by decide +kernel
theorem dL_law_146 : decode cL_law 146 = .ok (.iload_n 3, 1) := by decide +kernel
theorem dL_law_147 : decode cL_law 147 = .ok (.iconst 1, 1) := by decide +kernel
theorem dL_law_148 : decode cL_law 148 = .ok (.iadd, 1) := by decide +kernel
theorem dL_law_149 : decode cL_law 149 = .ok (.iaload, 1) := by decide +kernel
theorem dL_law_150 : decode cL_law 150 = .ok (.aload_n 0, 1) := by decide +kernel
theorem dL_law_151 : decode cL_law 151 = .ok (.iload_n 3, 1) := by decide +kernel
theorem dL_law_152 : decode cL_law 152 = .ok (.iconst 2, 1) := by decide +kernel
theorem dL_law_153 : decode cL_law 153 = .ok (.iadd, 1) := by decide +kernel
theorem dL_law_154 : decode cL_law 154 = .ok (.iaload, 1) := by decide +kernel
theorem dL_law_155 : decode cL_law 155 = .ok (.aload_n 0, 1) := by decide +kernel
theorem dL_law_156 : decode cL_law 156 = .ok (.iload_n 3, 1) := by decide +kernel
theorem dL_law_157 : decode cL_law 157 = .ok (.iconst 3, 1) := by decide +kernel
theorem dL_law_158 : decode cL_law 158 = .ok (.iadd, 1) := by decide +kernel
theorem dL_law_159 : decode cL_law 159 = .ok (.iaload, 1) := by decide +kernel
theorem dL_law_160 : decode cL_law 160 = .ok (.invokevirtual 13, 3) := by decide +kernel
theorem dL_law_163 : decode cL_law 163 = .ok (.aload_n 2, 1) := by decide +kernel
theorem dL_law_164 : decode cL_law 164 = .ok (.aload_n 0, 1) := by decide +kernel
theorem dL_law_165 : decode cL_law 165 = .ok (.iload_n 3, 1) := by decide +kernel
theorem dL_law_166 : decode cL_law 166 = .ok (.iconst 1, 1) := by decide +kernel
theorem dL_law_167 : decode cL_law 167 = .ok (.iadd, 1) := by decide +kernel
theorem dL_law_168 : decode cL_law 168 = .ok (.iaload, 1) := by decide +kernel
theorem dL_law_169 : decode cL_law 169 = .ok (.aload_n 0, 1) := by decide +kernel
theorem dL_law_170 : decode cL_law 170 = .ok (.iload_n 3, 1) := by decide +kernel
theorem dL_law_171 : decode cL_law 171 = .ok (.iconst 2, 1) := by decide +kernel
theorem dL_law_172 : decode cL_law 172 = .ok (.iadd, 1) := by decide +kernel
theorem dL_law_173 : decode cL_law 173 = .ok (.iaload, 1) := by decide +kernel
theorem dL_law_174 : decode cL_law 174 = .ok (.aload_n 0, 1) := by decide +kernel
theorem dL_law_175 : decode cL_law 175 = .ok (.iload_n 3, 1) := by decide +kernel
theorem dL_law_176 : decode cL_law 176 = .ok (.iconst 3, 1) := by decide +kernel
theorem dL_law_177 : decode cL_law 177 = .ok (.iadd, 1) := by decide +kernel
theorem dL_law_178 : decode cL_law 178 = .ok (.iaload, 1) := by decide +kernel
theorem dL_law_179 : decode cL_law 179 = .ok (.invokevirtual 17, 3) := by decide +kernel
theorem dL_law_182 : decode cL_law 182 = .ok (.if_icmp .eq 623, 3) := by decide +kernel
theorem dL_law_185 : decode cL_law 185 = .ok (.iconst 0, 1) := by decide +kernel
theorem dL_law_186 : decode cL_law 186 = .ok (.ireturn, 1) := by decide +kernel
theorem dL_law_187 : decode cL_law 187 = .ok (.aload_n 1, 1) := by decide +kernel
theorem dL_law_188 : decode cL_law 188 = .ok (.aload_n 0, 1) := by decide +kernel
theorem dL_law_189 : decode cL_law 189 = .ok (.iload_n 3, 1) := by decide +kernel
theorem dL_law_190 : decode cL_law 190 = .ok (.iconst 1, 1) := by decide +kernel
theorem dL_law_191 : decode cL_law 191 = .ok (.iadd, 1) := by decide +kernel
theorem dL_law_192 : decode cL_law 192 = .ok (.iaload, 1) := by decide +kernel
theorem dL_law_193 : decode cL_law 193 = .ok (.invokevirtual 18, 3) := by decide +kernel
theorem dL_law_196 : decode cL_law 196 = .ok (.aload_n 2, 1) := by decide +kernel
theorem dL_law_197 : decode cL_law 197 = .ok (.aload_n 0, 1) := by decide +kernel
theorem dL_law_198 : decode cL_law 198 = .ok (.iload_n 3, 1) := by decide +kernel
theorem dL_law_199 : decode cL_law 199 = .ok (.iconst 1, 1) := by decide +kernel
theorem dL_law_200 : decode cL_law 200 = .ok (.iadd, 1) := by decide +kernel
theorem dL_law_201 : decode cL_law 201 = .ok (.iaload, 1) := by decide +kernel
theorem dL_law_202 : decode cL_law 202 = .ok (.invokevirtual 22, 3) := by decide +kernel
theorem dL_law_205 : decode cL_law 205 = .ok (.if_icmp .eq 600, 3) := by decide +kernel
theorem dL_law_208 : decode cL_law 208 = .ok (.iconst 0, 1) := by decide +kernel
theorem dL_law_209 : decode cL_law 209 = .ok (.ireturn, 1) := by decide +kernel
theorem dL_law_210 : decode cL_law 210 = .ok (.aload_n 1, 1) := by decide +kernel
theorem dL_law_211 : decode cL_law 211 = .ok (.aload_n 0, 1) := by decide +kernel
theorem dL_law_212 : decode cL_law 212 = .ok (.iload_n 3, 1) := by decide +kernel
theorem dL_law_213 : decode cL_law 213 = .ok (.iconst 1, 1) := by decide +kernel
theorem dL_law_214 : decode cL_law 214 = .ok (.iadd, 1) := by decide +kernel
theorem dL_law_215 : decode cL_law 215 = .ok (.iaload, 1) := by decide +kernel
theorem dL_law_216 : decode cL_law 216 = .ok (.invokevirtual 23, 3) := by decide +kernel
theorem dL_law_219 : decode cL_law 219 = .ok (.aload_n 2, 1) := by decide +kernel
theorem dL_law_220 : decode cL_law 220 = .ok (.aload_n 0, 1) := by decide +kernel
theorem dL_law_221 : decode cL_law 221 = .ok (.iload_n 3, 1) := by decide +kernel
theorem dL_law_222 : decode cL_law 222 = .ok (.iconst 1, 1) := by decide +kernel
theorem dL_law_223 : decode cL_law 223 = .ok (.iadd, 1) := by decide +kernel
theorem dL_law_224 : decode cL_law 224 = .ok (.iaload, 1) := by decide +kernel
theorem dL_law_225 : decode cL_law 225 = .ok (.invokevirtual 26, 3) := by decide +kernel
theorem dL_law_228 : decode cL_law 228 = .ok (.if_icmp .eq 577, 3) := by decide +kernel
theorem dL_law_231 : decode cL_law 231 = .ok (.iconst 0, 1) := by decide +kernel
theorem dL_law_232 : decode cL_law 232 = .ok (.ireturn, 1) := by decide +kernel
theorem dL_law_233 : decode cL_law 233 = .ok (.aload_n 1, 1) := by decide +kernel
theorem dL_law_234 : decode cL_law 234 = .ok (.invokevirtual 27, 3) := by decide +kernel
theorem dL_law_237 : decode cL_law 237 = .ok (.aload_n 2, 1) := by decide +kernel
theorem dL_law_238 : decode cL_law 238 = .ok (.invokevirtual 31, 3) := by decide +kernel
theorem dL_law_241 : decode cL_law 241 = .ok (.if_icmp .eq 564, 3) := by decide +kernel
theorem dL_law_244 : decode cL_law 244 = .ok (.iconst 0, 1) := by decide +kernel
theorem dL_law_245 : decode cL_law 245 = .ok (.ireturn, 1) := by decide +kernel
theorem dL_law_246 : decode cL_law 246 = .ok (.aload_n 1, 1) := by decide +kernel
theorem dL_law_247 : decode cL_law 247 = .ok (.invokevirtual 32, 3) := by decide +kernel
theorem dL_law_250 : decode cL_law 250 = .ok (.aload_n 2, 1) := by decide +kernel
theorem dL_law_251 : decode cL_law 251 = .ok (.invokevirtual 35, 3) := by decide +kernel
theorem dL_law_254 : decode cL_law 254 = .ok (.if_icmp .eq 551, 3) := by decide +kernel
theorem dL_law_257 : decode cL_law 257 = .ok (.iconst 0, 1) := by decide +kernel
theorem dL_law_258 : decode cL_law 258 = .ok (.ireturn, 1) := by decide +kernel
theorem dL_law_259 : decode cL_law 259 = .ok (.aload_n 1, 1) := by decide +kernel
theorem dL_law_260 : decode cL_law 260 = .ok (.invokevirtual 36, 3) := by decide +kernel
theorem dL_law_263 : decode cL_law 263 = .ok (.aload_n 2, 1) := by decide +kernel
theorem dL_law_264 : decode cL_law 264 = .ok (.invokevirtual 39, 3) := by decide +kernel
theorem dL_law_267 : decode cL_law 267 = .ok (.if_icmp .eq 538, 3) := by decide +kernel
theorem dL_law_270 : decode cL_law 270 = .ok (.iconst 0, 1) := by decide +kernel
theorem dL_law_271 : decode cL_law 271 = .ok (.ireturn, 1) := by decide +kernel
theorem dL_law_272 : decode cL_law 272 = .ok (.aload_n 1, 1) := by decide +kernel
theorem dL_law_273 : decode cL_law 273 = .ok (.aload_n 0, 1) := by decide +kernel
theorem dL_law_274 : decode cL_law 274 = .ok (.iload_n 3, 1) := by decide +kernel
theorem dL_law_275 : decode cL_law 275 = .ok (.iconst 1, 1) := by decide +kernel
theorem dL_law_276 : decode cL_law 276 = .ok (.iadd, 1) := by decide +kernel
theorem dL_law_277 : decode cL_law 277 = .ok (.iaload, 1) := by decide +kernel
theorem dL_law_278 : decode cL_law 278 = .ok (.aload_n 0, 1) := by decide +kernel
theorem dL_law_279 : decode cL_law 279 = .ok (.iload_n 3, 1) := by decide +kernel
theorem dL_law_280 : decode cL_law 280 = .ok (.iconst 2, 1) := by decide +kernel
theorem dL_law_281 : decode cL_law 281 = .ok (.iadd, 1) := by decide +kernel
theorem dL_law_282 : decode cL_law 282 = .ok (.iaload, 1) := by decide +kernel
theorem dL_law_283 : decode cL_law 283 = .ok (.aload_n 0, 1) := by decide +kernel
theorem dL_law_284 : decode cL_law 284 = .ok (.iload_n 3, 1) := by decide +kernel
theorem dL_law_285 : decode cL_law 285 = .ok (.iconst 3, 1) := by decide +kernel
theorem dL_law_286 : decode cL_law 286 = .ok (.iadd, 1) := by decide +kernel
theorem dL_law_287 : decode cL_law 287 = .ok (.iaload, 1) := by decide +kernel
theorem dL_law_288 : decode cL_law 288 = .ok (.aload_n 0, 1) := by decide +kernel
theorem dL_law_289 : decode cL_law 289 = .ok (.iload_n 3, 1) := by decide +kernel
theorem dL_law_290 : decode cL_law 290 = .ok (.iconst 4, 1) := by decide +kernel
theorem dL_law_291 : decode cL_law 291 = .ok (.iadd, 1) := by decide +kernel
theorem dL_law_292 : decode cL_law 292 = .ok (.iaload, 1) := by decide +kernel
theorem dL_law_293 : decode cL_law 293 = .ok (.invokevirtual 40, 3) := by decide +kernel
theorem dL_law_296 : decode cL_law 296 = .ok (.aload_n 2, 1) := by decide +kernel
theorem dL_law_297 : decode cL_law 297 = .ok (.aload_n 0, 1) := by decide +kernel
theorem dL_law_298 : decode cL_law 298 = .ok (.iload_n 3, 1) := by decide +kernel
theorem dL_law_299 : decode cL_law 299 = .ok (.iconst 1, 1) := by decide +kernel
theorem dL_law_300 : decode cL_law 300 = .ok (.iadd, 1) := by decide +kernel
theorem dL_law_301 : decode cL_law 301 = .ok (.iaload, 1) := by decide +kernel
theorem dL_law_302 : decode cL_law 302 = .ok (.aload_n 0, 1) := by decide +kernel
theorem dL_law_303 : decode cL_law 303 = .ok (.iload_n 3, 1) := by decide +kernel
theorem dL_law_304 : decode cL_law 304 = .ok (.iconst 2, 1) := by decide +kernel
theorem dL_law_305 : decode cL_law 305 = .ok (.iadd, 1) := by decide +kernel
theorem dL_law_306 : decode cL_law 306 = .ok (.iaload, 1) := by decide +kernel
theorem dL_law_307 : decode cL_law 307 = .ok (.aload_n 0, 1) := by decide +kernel
theorem dL_law_308 : decode cL_law 308 = .ok (.iload_n 3, 1) := by decide +kernel
theorem dL_law_309 : decode cL_law 309 = .ok (.iconst 3, 1) := by decide +kernel
theorem dL_law_310 : decode cL_law 310 = .ok (.iadd, 1) := by decide +kernel
theorem dL_law_311 : decode cL_law 311 = .ok (.iaload, 1) := by decide +kernel
theorem dL_law_312 : decode cL_law 312 = .ok (.aload_n 0, 1) := by decide +kernel
theorem dL_law_313 : decode cL_law 313 = .ok (.iload_n 3, 1) := by decide +kernel
theorem dL_law_314 : decode cL_law 314 = .ok (.iconst 4, 1) := by decide +kernel
theorem dL_law_315 : decode cL_law 315 = .ok (.iadd, 1) := by decide +kernel
theorem dL_law_316 : decode cL_law 316 = .ok (.iaload, 1) := by decide +kernel
theorem dL_law_317 : decode cL_law 317 = .ok (.invokevirtual 44, 3) := by decide +kernel
theorem dL_law_320 : decode cL_law 320 = .ok (.if_icmp .eq 485, 3) := by decide +kernel
theorem dL_law_323 : decode cL_law 323 = .ok (.iconst 0, 1) := by decide +kernel
theorem dL_law_324 : decode cL_law 324 = .ok (.ireturn, 1) := by decide +kernel
theorem dL_law_325 : decode cL_law 325 = .ok (.aload_n 1, 1) := by decide +kernel
theorem dL_law_326 : decode cL_law 326 = .ok (.aload_n 0, 1) := by decide +kernel
theorem dL_law_327 : decode cL_law 327 = .ok (.iload_n 3, 1) := by decide +kernel
theorem dL_law_328 : decode cL_law 328 = .ok (.iconst 1, 1) := by decide +kernel
theorem dL_law_329 : decode cL_law 329 = .ok (.iadd, 1) := by decide +kernel
theorem dL_law_330 : decode cL_law 330 = .ok (.iaload, 1) := by decide +kernel
theorem dL_law_331 : decode cL_law 331 = .ok (.invokevirtual 45, 3) := by decide +kernel
theorem dL_law_334 : decode cL_law 334 = .ok (.aload_n 2, 1) := by decide +kernel
theorem dL_law_335 : decode cL_law 335 = .ok (.aload_n 0, 1) := by decide +kernel
theorem dL_law_336 : decode cL_law 336 = .ok (.iload_n 3, 1) := by decide +kernel
theorem dL_law_337 : decode cL_law 337 = .ok (.iconst 1, 1) := by decide +kernel
theorem dL_law_338 : decode cL_law 338 = .ok (.iadd, 1) := by decide +kernel
theorem dL_law_339 : decode cL_law 339 = .ok (.iaload, 1) := by decide +kernel
theorem dL_law_340 : decode cL_law 340 = .ok (.invokevirtual 48, 3) := by decide +kernel
theorem dL_law_343 : decode cL_law 343 = .ok (.if_icmp .eq 462, 3) := by decide +kernel
theorem dL_law_346 : decode cL_law 346 = .ok (.iconst 0, 1) := by decide +kernel
theorem dL_law_347 : decode cL_law 347 = .ok (.ireturn, 1) := by decide +kernel
theorem dL_law_348 : decode cL_law 348 = .ok (.aload_n 1, 1) := by decide +kernel
theorem dL_law_349 : decode cL_law 349 = .ok (.aload_n 0, 1) := by decide +kernel
theorem dL_law_350 : decode cL_law 350 = .ok (.iload_n 3, 1) := by decide +kernel
theorem dL_law_351 : decode cL_law 351 = .ok (.iconst 1, 1) := by decide +kernel
theorem dL_law_352 : decode cL_law 352 = .ok (.iadd, 1) := by decide +kernel
theorem dL_law_353 : decode cL_law 353 = .ok (.iaload, 1) := by decide +kernel
theorem dL_law_354 : decode cL_law 354 = .ok (.aload_n 0, 1) := by decide +kernel
theorem dL_law_355 : decode cL_law 355 = .ok (.iload_n 3, 1) := by decide +kernel
theorem dL_law_356 : decode cL_law 356 = .ok (.iconst 2, 1) := by decide +kernel
theorem dL_law_357 : decode cL_law 357 = .ok (.iadd, 1) := by decide +kernel
theorem dL_law_358 : decode cL_law 358 = .ok (.iaload, 1) := by decide +kernel
theorem dL_law_359 : decode cL_law 359 = .ok (.aload_n 0, 1) := by decide +kernel
theorem dL_law_360 : decode cL_law 360 = .ok (.iload_n 3, 1) := by decide +kernel
theorem dL_law_361 : decode cL_law 361 = .ok (.iconst 3, 1) := by decide +kernel
theorem dL_law_362 : decode cL_law 362 = .ok (.iadd, 1) := by decide +kernel
theorem dL_law_363 : decode cL_law 363 = .ok (.iaload, 1) := by decide +kernel
theorem dL_law_364 : decode cL_law 364 = .ok (.invokevirtual 49, 3) := by decide +kernel
theorem dL_law_367 : decode cL_law 367 = .ok (.aload_n 2, 1) := by decide +kernel
theorem dL_law_368 : decode cL_law 368 = .ok (.aload_n 0, 1) := by decide +kernel
theorem dL_law_369 : decode cL_law 369 = .ok (.iload_n 3, 1) := by decide +kernel
theorem dL_law_370 : decode cL_law 370 = .ok (.iconst 1, 1) := by decide +kernel
theorem dL_law_371 : decode cL_law 371 = .ok (.iadd, 1) := by decide +kernel
theorem dL_law_372 : decode cL_law 372 = .ok (.iaload, 1) := by decide +kernel
theorem dL_law_373 : decode cL_law 373 = .ok (.aload_n 0, 1) := by decide +kernel
theorem dL_law_374 : decode cL_law 374 = .ok (.iload_n 3, 1) := by decide +kernel
theorem dL_law_375 : decode cL_law 375 = .ok (.iconst 2, 1) := by decide +kernel
theorem dL_law_376 : decode cL_law 376 = .ok (.iadd, 1) := by decide +kernel
theorem dL_law_377 : decode cL_law 377 = .ok (.iaload, 1) := by decide +kernel
theorem dL_law_378 : decode cL_law 378 = .ok (.aload_n 0, 1) := by decide +kernel
theorem dL_law_379 : decode cL_law 379 = .ok (.iload_n 3, 1) := by decide +kernel
theorem dL_law_380 : decode cL_law 380 = .ok (.iconst 3, 1) := by decide +kernel
theorem dL_law_381 : decode cL_law 381 = .ok (.iadd, 1) := by decide +kernel
theorem dL_law_382 : decode cL_law 382 = .ok (.iaload, 1) := by decide +kernel
theorem dL_law_383 : decode cL_law 383 = .ok (.invokevirtual 52, 3) := by decide +kernel
theorem dL_law_386 : decode cL_law 386 = .ok (.if_icmp .eq 419, 3) := by decide +kernel
theorem dL_law_389 : decode cL_law 389 = .ok (.iconst 0, 1) := by decide +kernel
theorem dL_law_390 : decode cL_law 390 = .ok (.ireturn, 1) := by decide +kernel
theorem dL_law_391 : decode cL_law 391 = .ok (.aload_n 1, 1) := by decide +kernel
theorem dL_law_392 : decode cL_law 392 = .ok (.aload_n 0, 1) := by decide +kernel
theorem dL_law_393 : decode cL_law 393 = .ok (.iload_n 3, 1) := by decide +kernel
theorem dL_law_394 : decode cL_law 394 = .ok (.iconst 1, 1) := by decide +kernel
theorem dL_law_395 : decode cL_law 395 = .ok (.iadd, 1) := by decide +kernel
theorem dL_law_396 : decode cL_law 396 = .ok (.iaload, 1) := by decide +kernel
theorem dL_law_397 : decode cL_law 397 = .ok (.aload_n 0, 1) := by decide +kernel
theorem dL_law_398 : decode cL_law 398 = .ok (.iload_n 3, 1) := by decide +kernel
theorem dL_law_399 : decode cL_law 399 = .ok (.iconst 2, 1) := by decide +kernel
theorem dL_law_400 : decode cL_law 400 = .ok (.iadd, 1) := by decide +kernel
theorem dL_law_401 : decode cL_law 401 = .ok (.iaload, 1) := by decide +kernel
theorem dL_law_402 : decode cL_law 402 = .ok (.aload_n 0, 1) := by decide +kernel
theorem dL_law_403 : decode cL_law 403 = .ok (.iload_n 3, 1) := by decide +kernel
theorem dL_law_404 : decode cL_law 404 = .ok (.iconst 3, 1) := by decide +kernel
theorem dL_law_405 : decode cL_law 405 = .ok (.iadd, 1) := by decide +kernel
theorem dL_law_406 : decode cL_law 406 = .ok (.iaload, 1) := by decide +kernel
theorem dL_law_407 : decode cL_law 407 = .ok (.aload_n 0, 1) := by decide +kernel
theorem dL_law_408 : decode cL_law 408 = .ok (.iload_n 3, 1) := by decide +kernel
theorem dL_law_409 : decode cL_law 409 = .ok (.iconst 4, 1) := by decide +kernel
theorem dL_law_410 : decode cL_law 410 = .ok (.iadd, 1) := by decide +kernel
theorem dL_law_411 : decode cL_law 411 = .ok (.iaload, 1) := by decide +kernel
theorem dL_law_412 : decode cL_law 412 = .ok (.ifCond .eq 7, 3) := by decide +kernel
theorem dL_law_415 : decode cL_law 415 = .ok (.iconst 1, 1) := by decide +kernel
theorem dL_law_416 : decode cL_law 416 = .ok (.goto 4, 3) := by decide +kernel
theorem dL_law_419 : decode cL_law 419 = .ok (.iconst 0, 1) := by decide +kernel
theorem dL_law_420 : decode cL_law 420 = .ok (.invokevirtual 53, 3) := by decide +kernel
theorem dL_law_423 : decode cL_law 423 = .ok (.aload_n 2, 1) := by decide +kernel
theorem dL_law_424 : decode cL_law 424 = .ok (.aload_n 0, 1) := by decide +kernel
theorem dL_law_425 : decode cL_law 425 = .ok (.iload_n 3, 1) := by decide +kernel
theorem dL_law_426 : decode cL_law 426 = .ok (.iconst 1, 1) := by decide +kernel
theorem dL_law_427 : decode cL_law 427 = .ok (.iadd, 1) := by decide +kernel
theorem dL_law_428 : decode cL_law 428 = .ok (.iaload, 1) := by decide +kernel
theorem dL_law_429 : decode cL_law 429 = .ok (.aload_n 0, 1) := by decide +kernel
theorem dL_law_430 : decode cL_law 430 = .ok (.iload_n 3, 1) := by decide +kernel
theorem dL_law_431 : decode cL_law 431 = .ok (.iconst 2, 1) := by decide +kernel
theorem dL_law_432 : decode cL_law 432 = .ok (.iadd, 1) := by decide +kernel
theorem dL_law_433 : decode cL_law 433 = .ok (.iaload, 1) := by decide +kernel
theorem dL_law_434 : decode cL_law 434 = .ok (.aload_n 0, 1) := by decide +kernel
theorem dL_law_435 : decode cL_law 435 = .ok (.iload_n 3, 1) := by decide +kernel
theorem dL_law_436 : decode cL_law 436 = .ok (.iconst 3, 1) := by decide +kernel
theorem dL_law_437 : decode cL_law 437 = .ok (.iadd, 1) := by decide +kernel
theorem dL_law_438 : decode cL_law 438 = .ok (.iaload, 1) := by decide +kernel
theorem dL_law_439 : decode cL_law 439 = .ok (.aload_n 0, 1) := by decide +kernel
theorem dL_law_440 : decode cL_law 440 = .ok (.iload_n 3, 1) := by decide +kernel
theorem dL_law_441 : decode cL_law 441 = .ok (.iconst 4, 1) := by decide +kernel
theorem dL_law_442 : decode cL_law 442 = .ok (.iadd, 1) := by decide +kernel
theorem dL_law_443 : decode cL_law 443 = .ok (.iaload, 1) := by decide +kernel
theorem dL_law_444 : decode cL_law 444 = .ok (.ifCond .eq 7, 3) := by decide +kernel
theorem dL_law_447 : decode cL_law 447 = .ok (.iconst 1, 1) := by decide +kernel
theorem dL_law_448 : decode cL_law 448 = .ok (.goto 4, 3) := by decide +kernel
theorem dL_law_451 : decode cL_law 451 = .ok (.iconst 0, 1) := by decide +kernel
theorem dL_law_452 : decode cL_law 452 = .ok (.invokevirtual 57, 3) := by decide +kernel
theorem dL_law_455 : decode cL_law 455 = .ok (.if_icmp .eq 350, 3) := by decide +kernel
theorem dL_law_458 : decode cL_law 458 = .ok (.iconst 0, 1) := by decide +kernel
theorem dL_law_459 : decode cL_law 459 = .ok (.ireturn, 1) := by decide +kernel
theorem dL_law_460 : decode cL_law 460 = .ok (.aload_n 1, 1) := by decide +kernel
theorem dL_law_461 : decode cL_law 461 = .ok (.aload_n 0, 1) := by decide +kernel
theorem dL_law_462 : decode cL_law 462 = .ok (.iload_n 3, 1) := by decide +kernel
theorem dL_law_463 : decode cL_law 463 = .ok (.iconst 1, 1) := by decide +kernel
theorem dL_law_464 : decode cL_law 464 = .ok (.iadd, 1) := by decide +kernel
theorem dL_law_465 : decode cL_law 465 = .ok (.iaload, 1) := by decide +kernel
theorem dL_law_466 : decode cL_law 466 = .ok (.invokevirtual 58, 3) := by decide +kernel
theorem dL_law_469 : decode cL_law 469 = .ok (.aload_n 2, 1) := by decide +kernel
theorem dL_law_470 : decode cL_law 470 = .ok (.aload_n 0, 1) := by decide +kernel
theorem dL_law_471 : decode cL_law 471 = .ok (.iload_n 3, 1) := by decide +kernel
theorem dL_law_472 : decode cL_law 472 = .ok (.iconst 1, 1) := by decide +kernel
theorem dL_law_473 : decode cL_law 473 = .ok (.iadd, 1) := by decide +kernel
theorem dL_law_474 : decode cL_law 474 = .ok (.iaload, 1) := by decide +kernel
theorem dL_law_475 : decode cL_law 475 = .ok (.invokevirtual 61, 3) := by decide +kernel
theorem dL_law_478 : decode cL_law 478 = .ok (.if_icmp .eq 327, 3) := by decide +kernel
theorem dL_law_481 : decode cL_law 481 = .ok (.iconst 0, 1) := by decide +kernel
theorem dL_law_482 : decode cL_law 482 = .ok (.ireturn, 1) := by decide +kernel
theorem dL_law_483 : decode cL_law 483 = .ok (.aload_n 1, 1) := by decide +kernel
theorem dL_law_484 : decode cL_law 484 = .ok (.invokevirtual 62, 3) := by decide +kernel
theorem dL_law_487 : decode cL_law 487 = .ok (.aload_n 2, 1) := by decide +kernel
theorem dL_law_488 : decode cL_law 488 = .ok (.invokevirtual 65, 3) := by decide +kernel
theorem dL_law_491 : decode cL_law 491 = .ok (.if_icmp .eq 314, 3) := by decide +kernel
theorem dL_law_494 : decode cL_law 494 = .ok (.iconst 0, 1) := by decide +kernel
theorem dL_law_495 : decode cL_law 495 = .ok (.ireturn, 1) := by decide +kernel
theorem dL_law_496 : decode cL_law 496 = .ok (.aload_n 1, 1) := by decide +kernel
theorem dL_law_497 : decode cL_law 497 = .ok (.aload_n 0, 1) := by decide +kernel
theorem dL_law_498 : decode cL_law 498 = .ok (.iload_n 3, 1) := by decide +kernel
theorem dL_law_499 : decode cL_law 499 = .ok (.iconst 1, 1) := by decide +kernel
theorem dL_law_500 : decode cL_law 500 = .ok (.iadd, 1) := by decide +kernel
theorem dL_law_501 : decode cL_law 501 = .ok (.iaload, 1) := by decide +kernel
theorem dL_law_502 : decode cL_law 502 = .ok (.aload_n 0, 1) := by decide +kernel
theorem dL_law_503 : decode cL_law 503 = .ok (.iload_n 3, 1) := by decide +kernel
theorem dL_law_504 : decode cL_law 504 = .ok (.iconst 2, 1) := by decide +kernel
theorem dL_law_505 : decode cL_law 505 = .ok (.iadd, 1) := by decide +kernel
theorem dL_law_506 : decode cL_law 506 = .ok (.iaload, 1) := by decide +kernel
theorem dL_law_507 : decode cL_law 507 = .ok (.invokevirtual 66, 3) := by decide +kernel
theorem dL_law_510 : decode cL_law 510 = .ok (.aload_n 2, 1) := by decide +kernel
theorem dL_law_511 : decode cL_law 511 = .ok (.aload_n 0, 1) := by decide +kernel
theorem dL_law_512 : decode cL_law 512 = .ok (.iload_n 3, 1) := by decide +kernel
theorem dL_law_513 : decode cL_law 513 = .ok (.iconst 1, 1) := by decide +kernel
theorem dL_law_514 : decode cL_law 514 = .ok (.iadd, 1) := by decide +kernel
theorem dL_law_515 : decode cL_law 515 = .ok (.iaload, 1) := by decide +kernel
theorem dL_law_516 : decode cL_law 516 = .ok (.aload_n 0, 1) := by decide +kernel
theorem dL_law_517 : decode cL_law 517 = .ok (.iload_n 3, 1) := by decide +kernel
theorem dL_law_518 : decode cL_law 518 = .ok (.iconst 2, 1) := by decide +kernel
theorem dL_law_519 : decode cL_law 519 = .ok (.iadd, 1) := by decide +kernel
theorem dL_law_520 : decode cL_law 520 = .ok (.iaload, 1) := by decide +kernel
theorem dL_law_521 : decode cL_law 521 = .ok (.invokevirtual 70, 3) := by decide +kernel
theorem dL_law_524 : decode cL_law 524 = .ok (.if_icmp .eq 281, 3) := by decide +kernel
theorem dL_law_527 : decode cL_law 527 = .ok (.iconst 0, 1) := by decide +kernel
theorem dL_law_528 : decode cL_law 528 = .ok (.ireturn, 1) := by decide +kernel
theorem dL_law_529 : decode cL_law 529 = .ok (.aload_n 1, 1) := by decide +kernel
theorem dL_law_530 : decode cL_law 530 = .ok (.aload_n 0, 1) := by decide +kernel
theorem dL_law_531 : decode cL_law 531 = .ok (.iload_n 3, 1) := by decide +kernel
theorem dL_law_532 : decode cL_law 532 = .ok (.iconst 1, 1) := by decide +kernel
theorem dL_law_533 : decode cL_law 533 = .ok (.iadd, 1) := by decide +kernel
theorem dL_law_534 : decode cL_law 534 = .ok (.iaload, 1) := by decide +kernel
theorem dL_law_535 : decode cL_law 535 = .ok (.aload_n 0, 1) := by decide +kernel
theorem dL_law_536 : decode cL_law 536 = .ok (.iload_n 3, 1) := by decide +kernel
theorem dL_law_537 : decode cL_law 537 = .ok (.iconst 2, 1) := by decide +kernel
theorem dL_law_538 : decode cL_law 538 = .ok (.iadd, 1) := by decide +kernel
theorem dL_law_539 : decode cL_law 539 = .ok (.iaload, 1) := by decide +kernel
theorem dL_law_540 : decode cL_law 540 = .ok (.aload_n 0, 1) := by decide +kernel
theorem dL_law_541 : decode cL_law 541 = .ok (.iload_n 3, 1) := by decide +kernel
theorem dL_law_542 : decode cL_law 542 = .ok (.iconst 3, 1) := by decide +kernel
theorem dL_law_543 : decode cL_law 543 = .ok (.iadd, 1) := by decide +kernel
theorem dL_law_544 : decode cL_law 544 = .ok (.iaload, 1) := by decide +kernel
theorem dL_law_545 : decode cL_law 545 = .ok (.ifCond .eq 7, 3) := by decide +kernel
theorem dL_law_548 : decode cL_law 548 = .ok (.iconst 1, 1) := by decide +kernel
theorem dL_law_549 : decode cL_law 549 = .ok (.goto 4, 3) := by decide +kernel
theorem dL_law_552 : decode cL_law 552 = .ok (.iconst 0, 1) := by decide +kernel
theorem dL_law_553 : decode cL_law 553 = .ok (.invokevirtual 71, 3) := by decide +kernel
theorem dL_law_556 : decode cL_law 556 = .ok (.aload_n 2, 1) := by decide +kernel
theorem dL_law_557 : decode cL_law 557 = .ok (.aload_n 0, 1) := by decide +kernel
theorem dL_law_558 : decode cL_law 558 = .ok (.iload_n 3, 1) := by decide +kernel
theorem dL_law_559 : decode cL_law 559 = .ok (.iconst 1, 1) := by decide +kernel
theorem dL_law_560 : decode cL_law 560 = .ok (.iadd, 1) := by decide +kernel
theorem dL_law_561 : decode cL_law 561 = .ok (.iaload, 1) := by decide +kernel
theorem dL_law_562 : decode cL_law 562 = .ok (.aload_n 0, 1) := by decide +kernel
theorem dL_law_563 : decode cL_law 563 = .ok (.iload_n 3, 1) := by decide +kernel
theorem dL_law_564 : decode cL_law 564 = .ok (.iconst 2, 1) := by decide +kernel
theorem dL_law_565 : decode cL_law 565 = .ok (.iadd, 1) := by decide +kernel
theorem dL_law_566 : decode cL_law 566 = .ok (.iaload, 1) := by decide +kernel
theorem dL_law_567 : decode cL_law 567 = .ok (.aload_n 0, 1) := by decide +kernel
theorem dL_law_568 : decode cL_law 568 = .ok (.iload_n 3, 1) := by decide +kernel
theorem dL_law_569 : decode cL_law 569 = .ok (.iconst 3, 1) := by decide +kernel
theorem dL_law_570 : decode cL_law 570 = .ok (.iadd, 1) := by decide +kernel
theorem dL_law_571 : decode cL_law 571 = .ok (.iaload, 1) := by decide +kernel
theorem dL_law_572 : decode cL_law 572 = .ok (.ifCond .eq 7, 3) := by decide +kernel
theorem dL_law_575 : decode cL_law 575 = .ok (.iconst 1, 1) := by decide +kernel
theorem dL_law_576 : decode cL_law 576 = .ok (.goto 4, 3) := by decide +kernel
theorem dL_law_579 : decode cL_law 579 = .ok (.iconst 0, 1) := by decide +kernel
theorem dL_law_580 : decode cL_law 580 = .ok (.invokevirtual 75, 3) := by decide +kernel
theorem dL_law_583 : decode cL_law 583 = .ok (.if_icmp .eq 222, 3) := by decide +kernel
theorem dL_law_586 : decode cL_law 586 = .ok (.iconst 0, 1) := by decide +kernel
theorem dL_law_587 : decode cL_law 587 = .ok (.ireturn, 1) := by decide +kernel
theorem dL_law_588 : decode cL_law 588 = .ok (.aload_n 1, 1) := by decide +kernel
theorem dL_law_589 : decode cL_law 589 = .ok (.aload_n 0, 1) := by decide +kernel
theorem dL_law_590 : decode cL_law 590 = .ok (.iload_n 3, 1) := by decide +kernel
theorem dL_law_591 : decode cL_law 591 = .ok (.iconst 1, 1) := by decide +kernel
theorem dL_law_592 : decode cL_law 592 = .ok (.iadd, 1) := by decide +kernel
theorem dL_law_593 : decode cL_law 593 = .ok (.iaload, 1) := by decide +kernel
theorem dL_law_594 : decode cL_law 594 = .ok (.aload_n 0, 1) := by decide +kernel
theorem dL_law_595 : decode cL_law 595 = .ok (.iload_n 3, 1) := by decide +kernel
theorem dL_law_596 : decode cL_law 596 = .ok (.iconst 2, 1) := by decide +kernel
theorem dL_law_597 : decode cL_law 597 = .ok (.iadd, 1) := by decide +kernel
theorem dL_law_598 : decode cL_law 598 = .ok (.iaload, 1) := by decide +kernel
theorem dL_law_599 : decode cL_law 599 = .ok (.invokevirtual 76, 3) := by decide +kernel
theorem dL_law_602 : decode cL_law 602 = .ok (.aload_n 2, 1) := by decide +kernel
theorem dL_law_603 : decode cL_law 603 = .ok (.aload_n 0, 1) := by decide +kernel
theorem dL_law_604 : decode cL_law 604 = .ok (.iload_n 3, 1) := by decide +kernel
theorem dL_law_605 : decode cL_law 605 = .ok (.iconst 1, 1) := by decide +kernel
theorem dL_law_606 : decode cL_law 606 = .ok (.iadd, 1) := by decide +kernel
theorem dL_law_607 : decode cL_law 607 = .ok (.iaload, 1) := by decide +kernel
theorem dL_law_608 : decode cL_law 608 = .ok (.aload_n 0, 1) := by decide +kernel
theorem dL_law_609 : decode cL_law 609 = .ok (.iload_n 3, 1) := by decide +kernel
theorem dL_law_610 : decode cL_law 610 = .ok (.iconst 2, 1) := by decide +kernel
theorem dL_law_611 : decode cL_law 611 = .ok (.iadd, 1) := by decide +kernel
theorem dL_law_612 : decode cL_law 612 = .ok (.iaload, 1) := by decide +kernel
theorem dL_law_613 : decode cL_law 613 = .ok (.invokevirtual 79, 3) := by decide +kernel
theorem dL_law_616 : decode cL_law 616 = .ok (.if_icmp .eq 189, 3) := by decide +kernel
theorem dL_law_619 : decode cL_law 619 = .ok (.iconst 0, 1) := by decide +kernel
theorem dL_law_620 : decode cL_law 620 = .ok (.ireturn, 1) := by decide +kernel
theorem dL_law_621 : decode cL_law 621 = .ok (.aload_n 1, 1) := by decide +kernel
theorem dL_law_622 : decode cL_law 622 = .ok (.aload_n 0, 1) := by decide +kernel
theorem dL_law_623 : decode cL_law 623 = .ok (.iload_n 3, 1) := by decide +kernel
theorem dL_law_624 : decode cL_law 624 = .ok (.iconst 1, 1) := by decide +kernel
theorem dL_law_625 : decode cL_law 625 = .ok (.iadd, 1) := by decide +kernel
theorem dL_law_626 : decode cL_law 626 = .ok (.iaload, 1) := by decide +kernel
theorem dL_law_627 : decode cL_law 627 = .ok (.invokevirtual 80, 3) := by decide +kernel
theorem dL_law_630 : decode cL_law 630 = .ok (.aload_n 2, 1) := by decide +kernel
theorem dL_law_631 : decode cL_law 631 = .ok (.aload_n 0, 1) := by decide +kernel
theorem dL_law_632 : decode cL_law 632 = .ok (.iload_n 3, 1) := by decide +kernel
theorem dL_law_633 : decode cL_law 633 = .ok (.iconst 1, 1) := by decide +kernel
theorem dL_law_634 : decode cL_law 634 = .ok (.iadd, 1) := by decide +kernel
theorem dL_law_635 : decode cL_law 635 = .ok (.iaload, 1) := by decide +kernel
theorem dL_law_636 : decode cL_law 636 = .ok (.invokevirtual 83, 3) := by decide +kernel
theorem dL_law_639 : decode cL_law 639 = .ok (.if_icmp .eq 166, 3) := by decide +kernel
theorem dL_law_642 : decode cL_law 642 = .ok (.iconst 0, 1) := by decide +kernel
theorem dL_law_643 : decode cL_law 643 = .ok (.ireturn, 1) := by decide +kernel
theorem dL_law_644 : decode cL_law 644 = .ok (.aload_n 1, 1) := by decide +kernel
theorem dL_law_645 : decode cL_law 645 = .ok (.invokevirtual 84, 3) := by decide +kernel
theorem dL_law_648 : decode cL_law 648 = .ok (.aload_n 2, 1) := by decide +kernel
theorem dL_law_649 : decode cL_law 649 = .ok (.invokevirtual 87, 3) := by decide +kernel
theorem dL_law_652 : decode cL_law 652 = .ok (.if_icmp .eq 153, 3) := by decide +kernel
theorem dL_law_655 : decode cL_law 655 = .ok (.iconst 0, 1) := by decide +kernel
theorem dL_law_656 : decode cL_law 656 = .ok (.ireturn, 1) := by decide +kernel
theorem dL_law_657 : decode cL_law 657 = .ok (.aload_n 1, 1) := by decide +kernel
theorem dL_law_658 : decode cL_law 658 = .ok (.invokevirtual 88, 3) := by decide +kernel
theorem dL_law_661 : decode cL_law 661 = .ok (.aload_n 2, 1) := by decide +kernel
theorem dL_law_662 : decode cL_law 662 = .ok (.invokevirtual 91, 3) := by decide +kernel
theorem dL_law_665 : decode cL_law 665 = .ok (.if_icmp .eq 140, 3) := by decide +kernel
theorem dL_law_668 : decode cL_law 668 = .ok (.iconst 0, 1) := by decide +kernel
theorem dL_law_669 : decode cL_law 669 = .ok (.ireturn, 1) := by decide +kernel
theorem dL_law_670 : decode cL_law 670 = .ok (.aload_n 1, 1) := by decide +kernel
theorem dL_law_671 : decode cL_law 671 = .ok (.aload_n 0, 1) := by decide +kernel
theorem dL_law_672 : decode cL_law 672 = .ok (.iload_n 3, 1) := by decide +kernel
theorem dL_law_673 : decode cL_law 673 = .ok (.iconst 1, 1) := by decide +kernel
theorem dL_law_674 : decode cL_law 674 = .ok (.iadd, 1) := by decide +kernel
theorem dL_law_675 : decode cL_law 675 = .ok (.iaload, 1) := by decide +kernel
theorem dL_law_676 : decode cL_law 676 = .ok (.ifCond .eq 7, 3) := by decide +kernel
theorem dL_law_679 : decode cL_law 679 = .ok (.iconst 1, 1) := by decide +kernel
theorem dL_law_680 : decode cL_law 680 = .ok (.goto 4, 3) := by decide +kernel
theorem dL_law_683 : decode cL_law 683 = .ok (.iconst 0, 1) := by decide +kernel
theorem dL_law_684 : decode cL_law 684 = .ok (.aload_n 0, 1) := by decide +kernel
theorem dL_law_685 : decode cL_law 685 = .ok (.iload_n 3, 1) := by decide +kernel
theorem dL_law_686 : decode cL_law 686 = .ok (.iconst 2, 1) := by decide +kernel
theorem dL_law_687 : decode cL_law 687 = .ok (.iadd, 1) := by decide +kernel
theorem dL_law_688 : decode cL_law 688 = .ok (.iaload, 1) := by decide +kernel
theorem dL_law_689 : decode cL_law 689 = .ok (.invokevirtual 92, 3) := by decide +kernel
theorem dL_law_692 : decode cL_law 692 = .ok (.aload_n 2, 1) := by decide +kernel
theorem dL_law_693 : decode cL_law 693 = .ok (.aload_n 0, 1) := by decide +kernel
theorem dL_law_694 : decode cL_law 694 = .ok (.iload_n 3, 1) := by decide +kernel
theorem dL_law_695 : decode cL_law 695 = .ok (.iconst 1, 1) := by decide +kernel
theorem dL_law_696 : decode cL_law 696 = .ok (.iadd, 1) := by decide +kernel
theorem dL_law_697 : decode cL_law 697 = .ok (.iaload, 1) := by decide +kernel
theorem dL_law_698 : decode cL_law 698 = .ok (.ifCond .eq 7, 3) := by decide +kernel
theorem dL_law_701 : decode cL_law 701 = .ok (.iconst 1, 1) := by decide +kernel
theorem dL_law_702 : decode cL_law 702 = .ok (.goto 4, 3) := by decide +kernel
theorem dL_law_705 : decode cL_law 705 = .ok (.iconst 0, 1) := by decide +kernel
theorem dL_law_706 : decode cL_law 706 = .ok (.aload_n 0, 1) := by decide +kernel
theorem dL_law_707 : decode cL_law 707 = .ok (.iload_n 3, 1) := by decide +kernel
theorem dL_law_708 : decode cL_law 708 = .ok (.iconst 2, 1) := by decide +kernel
theorem dL_law_709 : decode cL_law 709 = .ok (.iadd, 1) := by decide +kernel
theorem dL_law_710 : decode cL_law 710 = .ok (.iaload, 1) := by decide +kernel
theorem dL_law_711 : decode cL_law 711 = .ok (.invokevirtual 96, 3) := by decide +kernel
theorem dL_law_714 : decode cL_law 714 = .ok (.if_icmp .eq 91, 3) := by decide +kernel
theorem dL_law_717 : decode cL_law 717 = .ok (.iconst 0, 1) := by decide +kernel
theorem dL_law_718 : decode cL_law 718 = .ok (.ireturn, 1) := by decide +kernel
theorem dL_law_719 : decode cL_law 719 = .ok (.aload_n 1, 1) := by decide +kernel
theorem dL_law_720 : decode cL_law 720 = .ok (.invokevirtual 97, 3) := by decide +kernel
theorem dL_law_723 : decode cL_law 723 = .ok (.aload_n 2, 1) := by decide +kernel
theorem dL_law_724 : decode cL_law 724 = .ok (.invokevirtual 100, 3) := by decide +kernel
theorem dL_law_727 : decode cL_law 727 = .ok (.if_icmp .eq 78, 3) := by decide +kernel
theorem dL_law_730 : decode cL_law 730 = .ok (.iconst 0, 1) := by decide +kernel
theorem dL_law_731 : decode cL_law 731 = .ok (.ireturn, 1) := by decide +kernel
theorem dL_law_732 : decode cL_law 732 = .ok (.aload_n 1, 1) := by decide +kernel
theorem dL_law_733 : decode cL_law 733 = .ok (.aload_n 0, 1) := by decide +kernel
theorem dL_law_734 : decode cL_law 734 = .ok (.iload_n 3, 1) := by decide +kernel
theorem dL_law_735 : decode cL_law 735 = .ok (.iconst 1, 1) := by decide +kernel
theorem dL_law_736 : decode cL_law 736 = .ok (.iadd, 1) := by decide +kernel
theorem dL_law_737 : decode cL_law 737 = .ok (.iaload, 1) := by decide +kernel
theorem dL_law_738 : decode cL_law 738 = .ok (.invokevirtual 101, 3) := by decide +kernel
theorem dL_law_741 : decode cL_law 741 = .ok (.aload_n 2, 1) := by decide +kernel
theorem dL_law_742 : decode cL_law 742 = .ok (.aload_n 0, 1) := by decide +kernel
theorem dL_law_743 : decode cL_law 743 = .ok (.iload_n 3, 1) := by decide +kernel
theorem dL_law_744 : decode cL_law 744 = .ok (.iconst 1, 1) := by decide +kernel
theorem dL_law_745 : decode cL_law 745 = .ok (.iadd, 1) := by decide +kernel
theorem dL_law_746 : decode cL_law 746 = .ok (.iaload, 1) := by decide +kernel
theorem dL_law_747 : decode cL_law 747 = .ok (.invokevirtual 104, 3) := by decide +kernel
theorem dL_law_750 : decode cL_law 750 = .ok (.if_icmp .eq 55, 3) := by decide +kernel
theorem dL_law_753 : decode cL_law 753 = .ok (.iconst 0, 1) := by decide +kernel
theorem dL_law_754 : decode cL_law 754 = .ok (.ireturn, 1) := by decide +kernel
theorem dL_law_755 : decode cL_law 755 = .ok (.aload_n 1, 1) := by decide +kernel
theorem dL_law_756 : decode cL_law 756 = .ok (.invokevirtual 105, 3) := by decide +kernel
theorem dL_law_759 : decode cL_law 759 = .ok (.aload_n 2, 1) := by decide +kernel
theorem dL_law_760 : decode cL_law 760 = .ok (.invokevirtual 108, 3) := by decide +kernel
theorem dL_law_763 : decode cL_law 763 = .ok (.if_icmp .eq 42, 3) := by decide +kernel
theorem dL_law_766 : decode cL_law 766 = .ok (.iconst 0, 1) := by decide +kernel
theorem dL_law_767 : decode cL_law 767 = .ok (.ireturn, 1) := by decide +kernel
theorem dL_law_768 : decode cL_law 768 = .ok (.aload_n 1, 1) := by decide +kernel
theorem dL_law_769 : decode cL_law 769 = .ok (.aload_n 0, 1) := by decide +kernel
theorem dL_law_770 : decode cL_law 770 = .ok (.iload_n 3, 1) := by decide +kernel
theorem dL_law_771 : decode cL_law 771 = .ok (.iconst 1, 1) := by decide +kernel
theorem dL_law_772 : decode cL_law 772 = .ok (.iadd, 1) := by decide +kernel
theorem dL_law_773 : decode cL_law 773 = .ok (.iaload, 1) := by decide +kernel
theorem dL_law_774 : decode cL_law 774 = .ok (.invokevirtual 109, 3) := by decide +kernel
theorem dL_law_777 : decode cL_law 777 = .ok (.aload_n 2, 1) := by decide +kernel
theorem dL_law_778 : decode cL_law 778 = .ok (.aload_n 0, 1) := by decide +kernel
theorem dL_law_779 : decode cL_law 779 = .ok (.iload_n 3, 1) := by decide +kernel
theorem dL_law_780 : decode cL_law 780 = .ok (.iconst 1, 1) := by decide +kernel
theorem dL_law_781 : decode cL_law 781 = .ok (.iadd, 1) := by decide +kernel
theorem dL_law_782 : decode cL_law 782 = .ok (.iaload, 1) := by decide +kernel
theorem dL_law_783 : decode cL_law 783 = .ok (.invokevirtual 112, 3) := by decide +kernel
theorem dL_law_786 : decode cL_law 786 = .ok (.if_icmp .eq 19, 3) := by decide +kernel
theorem dL_law_789 : decode cL_law 789 = .ok (.iconst 0, 1) := by decide +kernel
theorem dL_law_790 : decode cL_law 790 = .ok (.ireturn, 1) := by decide +kernel
theorem dL_law_791 : decode cL_law 791 = .ok (.aload_n 1, 1) := by decide +kernel
theorem dL_law_792 : decode cL_law 792 = .ok (.invokevirtual 113, 3) := by decide +kernel
theorem dL_law_795 : decode cL_law 795 = .ok (.aload_n 2, 1) := by decide +kernel
theorem dL_law_796 : decode cL_law 796 = .ok (.invokevirtual 117, 3) := by decide +kernel
theorem dL_law_799 : decode cL_law 799 = .ok (.lcmp, 1) := by decide +kernel
theorem dL_law_800 : decode cL_law 800 = .ok (.ifCond .eq 5, 3) := by decide +kernel
theorem dL_law_803 : decode cL_law 803 = .ok (.iconst 0, 1) := by decide +kernel
theorem dL_law_804 : decode cL_law 804 = .ok (.ireturn, 1) := by decide +kernel
theorem dL_law_805 : decode cL_law 805 = .ok (.iinc 3 5, 3) := by decide +kernel
theorem dL_law_808 : decode cL_law 808 = .ok (.goto (-790), 3) := by decide +kernel
theorem dL_law_811 : decode cL_law 811 = .ok (.iconst 1, 1) := by decide +kernel
theorem dL_law_812 : decode cL_law 812 = .ok (.ireturn, 1) := by decide +kernel
end
section
theorem mem_places {big : List Cond} (ws : List Cond) (ps : List Nat) (hp : ws = ps.filterMap (fun i => big[i]?)) : ∀ w ∈ ws, w ∈ big := by
  intro w hw
  rw [hp] at hw
  obtain ⟨i, -, hi⟩ := List.mem_filterMap.mp hw
  exact List.mem_of_getElem? hi
theorem lwT_w {ws : List Cond} (ps : List Nat) (hp : ws = ps.filterMap (fun i => tables_1[i]?)) (hg : ws.all goodWord = true) : ∀ w ∈ ws, w ∈ lwT := fun w hw => lwT_t (mem_places ws ps hp w hw) (List.all_eq_true.mp hg w hw)
set_option maxRecDepth 100000 in
theorem inX0 : ∀ w ∈ u_ws RX0 TX0 6, w ∈ lwT := lwT_w [120, 122, 124, 126, 128, 130] (by decide +kernel) (by decide +kernel)
set_option maxRecDepth 100000 in
theorem inX1 : ∀ w ∈ u_ws RX1 TX1 9, w ∈ lwT := lwT_w [212, 214, 216, 218, 220, 222, 224, 226, 228] (by decide +kernel) (by decide +kernel)
set_option maxRecDepth 100000 in
theorem inX2 : ∀ w ∈ u_ws RX2 TX2 3, w ∈ lwT := lwT_w [146, 148, 150] (by decide +kernel) (by decide +kernel)
set_option maxRecDepth 100000 in
theorem inX3 : ∀ w ∈ u_ws RX3 TX3 6, w ∈ lwT := lwT_w [251, 253, 255, 257, 259, 261] (by decide +kernel) (by decide +kernel)
set_option maxRecDepth 100000 in
theorem inX4 : ∀ w ∈ u_ws RX4 TX4 6, w ∈ lwT := lwT_w [170, 172, 174, 176, 178, 180] (by decide +kernel) (by decide +kernel)
set_option maxRecDepth 100000 in
theorem inX5 : ∀ w ∈ u_ws RX5 TX5 14, w ∈ lwT := lwT_w [70, 72, 74, 76, 78, 80, 82, 84, 86, 88, 90, 92, 94, 96] (by decide +kernel) (by decide +kernel)
set_option maxRecDepth 100000 in
theorem inX6 : ∀ w ∈ u_ws RX6 TX6 5, w ∈ lwT := lwT_w [269, 271, 273, 275, 277] (by decide +kernel) (by decide +kernel)
set_option maxRecDepth 100000 in
theorem inX7 : ∀ w ∈ u_ws RX7 TX7 21, w ∈ lwT := lwT_w [688, 690, 692, 694, 696, 698, 700, 702, 704, 706, 708, 710, 712, 714, 716, 718, 720, 722, 724, 726, 728] (by decide +kernel) (by decide +kernel)
set_option maxRecDepth 100000 in
theorem wc_J6_bitCount_0f7a4 : Cond.code yJ6_bitCount_0f7a4 cJ6_bitCount_0f7a4 1 (some .int) ∈ lwT := lwT_t (List.mem_of_getElem? (i := 293) (by decide +kernel)) rfl
set_option maxRecDepth 100000 in
theorem wc_J9_max_7cf53 : Cond.code yJ9_max_7cf53 cJ9_max_7cf53 2 (some .int) ∈ lwT := lwT_t (List.mem_of_getElem? (i := 435) (by decide +kernel)) rfl
set_option maxRecDepth 100000 in
theorem wc_X0_above : Cond.code yX0_above cX0_above 8 (some .int) ∈ lwT := lwT_t (List.mem_of_getElem? (i := 497) (by decide +kernel)) rfl
set_option maxRecDepth 100000 in
theorem wc_X0_air : Cond.code yX0_air cX0_air 3 (some .int) ∈ lwT := lwT_t (List.mem_of_getElem? (i := 579) (by decide +kernel)) rfl
set_option maxRecDepth 100000 in
theorem wc_X0_clear : Cond.code yX0_clear cX0_clear 2 none ∈ lwT := lwT_t (List.mem_of_getElem? (i := 316) (by decide +kernel)) rfl
set_option maxRecDepth 100000 in
theorem wc_X0_copyFrom : Cond.code yX0_copyFrom cX0_copyFrom 2 none ∈ lwT := lwT_t (List.mem_of_getElem? (i := 304) (by decide +kernel)) rfl
set_option maxRecDepth 100000 in
theorem wc_X0_copyTrays : Cond.code yX0_copyTrays cX0_copyTrays 3 none ∈ lwT := lwT_t (List.mem_of_getElem? (i := 308) (by decide +kernel)) rfl
set_option maxRecDepth 100000 in
theorem wc_X0_encloses : Cond.code yX0_encloses cX0_encloses 5 (some .boolean) ∈ lwT := lwT_t (List.mem_of_getElem? (i := 415) (by decide +kernel)) rfl
set_option maxRecDepth 100000 in
theorem wc_X0_faultOf : Cond.code yX0_faultOf cX0_faultOf 2 (some .int) ∈ lwT := lwT_t (List.mem_of_getElem? (i := 501) (by decide +kernel)) rfl
set_option maxRecDepth 100000 in
theorem wc_X0_faults : Cond.code yX0_faults cX0_faults 4 (some .int) ∈ lwT := lwT_t (List.mem_of_getElem? (i := 570) (by decide +kernel)) rfl
set_option maxRecDepth 100000 in
theorem wc_X0_filledHeight : Cond.code yX0_filledHeight cX0_filledHeight 3 (some .int) ∈ lwT := lwT_t (List.mem_of_getElem? (i := 574) (by decide +kernel)) rfl
set_option maxRecDepth 100000 in
theorem wc_X0_freeTrays : Cond.code yX0_freeTrays cX0_freeTrays 3 (some .int) ∈ lwT := lwT_t (List.mem_of_getElem? (i := 641) (by decide +kernel)) rfl
set_option maxRecDepth 100000 in
theorem wc_X0_has : Cond.code yX0_has cX0_has 2 (some .boolean) ∈ lwT := lwT_t (List.mem_of_getElem? (i := 399) (by decide +kernel)) rfl
set_option maxRecDepth 100000 in
theorem wc_X0_highestFloor : Cond.code yX0_highestFloor cX0_highestFloor 2 (some .int) ∈ lwT := lwT_t (List.mem_of_getElem? (i := 439) (by decide +kernel)) rfl
set_option maxRecDepth 100000 in
theorem wc_X0_inside : Cond.code yX0_inside cX0_inside 3 (some .int) ∈ lwT := lwT_t (List.mem_of_getElem? (i := 290) (by decide +kernel)) rfl
set_option maxRecDepth 100000 in
theorem wc_X0_isFree : Cond.code yX0_isFree cX0_isFree 2 (some .boolean) ∈ lwT := lwT_t (List.mem_of_getElem? (i := 468) (by decide +kernel)) rfl
set_option maxRecDepth 100000 in
theorem wc_X0_lateOnes : Cond.code yX0_lateOnes cX0_lateOnes 5 (some .int) ∈ lwT := lwT_t (List.mem_of_getElem? (i := 507) (by decide +kernel)) rfl
set_option maxRecDepth 100000 in
theorem wc_X0_lifts : Cond.code yX0_lifts cX0_lifts 4 (some .int) ∈ lwT := lwT_t (List.mem_of_getElem? (i := 649) (by decide +kernel)) rfl
set_option maxRecDepth 100000 in
theorem wc_X0_lyingOn : Cond.code yX0_lyingOn cX0_lyingOn 4 (some .int) ∈ lwT := lwT_t (List.mem_of_getElem? (i := 472) (by decide +kernel)) rfl
set_option maxRecDepth 100000 in
theorem wc_X0_playedLifts : Cond.code yX0_playedLifts cX0_playedLifts 6 (some .int) ∈ lwT := lwT_t (List.mem_of_getElem? (i := 620) (by decide +kernel)) rfl
set_option maxRecDepth 100000 in
theorem wc_X0_remove : Cond.code yX0_remove cX0_remove 3 none ∈ lwT := lwT_t (List.mem_of_getElem? (i := 403) (by decide +kernel)) rfl
set_option maxRecDepth 100000 in
theorem wc_X0_uppermost : Cond.code yX0_uppermost cX0_uppermost 6 (some .int) ∈ lwT := lwT_t (List.mem_of_getElem? (i := 515) (by decide +kernel)) rfl
set_option maxRecDepth 100000 in
theorem wc_X1_holds : Cond.code yX1_holds cX1_holds 12 (some .boolean) ∈ lwT := lwT_t (List.mem_of_getElem? (i := 447) (by decide +kernel)) rfl
set_option maxRecDepth 100000 in
theorem wc_X1_keep : Cond.code yX1_keep cX1_keep 4 none ∈ lwT := lwT_t (List.mem_of_getElem? (i := 533) (by decide +kernel)) rfl
set_option maxRecDepth 100000 in
theorem wc_X1_raise : Cond.code yX1_raise cX1_raise 6 none ∈ lwT := lwT_t (List.mem_of_getElem? (i := 431) (by decide +kernel)) rfl
set_option maxRecDepth 100000 in
theorem wc_X1_search : Cond.code yX1_search cX1_search 9 none ∈ lwT := lwT_t (List.mem_of_getElem? (i := 527) (by decide +kernel)) rfl
set_option maxRecDepth 100000 in
theorem wc_X1_survey : Cond.code yX1_survey cX1_survey 3 none ∈ lwT := lwT_t (List.mem_of_getElem? (i := 427) (by decide +kernel)) rfl
set_option maxRecDepth 100000 in
theorem wc_X2_record : Cond.code yX2_record cX2_record 2 none ∈ lwT := lwT_t (List.mem_of_getElem? (i := 300) (by decide +kernel)) rfl
set_option maxRecDepth 100000 in
theorem wc_X2_restore : Cond.code yX2_restore cX2_restore 2 none ∈ lwT := lwT_t (List.mem_of_getElem? (i := 633) (by decide +kernel)) rfl
set_option maxRecDepth 100000 in
theorem wc_X3_isBefore : Cond.code yX3_isBefore cX3_isBefore 2 (some .boolean) ∈ lwT := lwT_t (List.mem_of_getElem? (i := 550) (by decide +kernel)) rfl
set_option maxRecDepth 100000 in
theorem wc_X3_isTriedBetter : Cond.code yX3_isTriedBetter cX3_isTriedBetter 2 (some .boolean) ∈ lwT := lwT_t (List.mem_of_getElem? (i := 597) (by decide +kernel)) rfl
set_option maxRecDepth 100000 in
theorem wc_X3_letDownFrom : Cond.code yX3_letDownFrom cX3_letDownFrom 5 none ∈ lwT := lwT_t (List.mem_of_getElem? (i := 555) (by decide +kernel)) rfl
set_option maxRecDepth 100000 in
theorem wc_X3_measure : Cond.code yX3_measure cX3_measure 2 none ∈ lwT := lwT_t (List.mem_of_getElem? (i := 564) (by decide +kernel)) rfl
set_option maxRecDepth 100000 in
theorem wc_X3_packByBest : Cond.code yX3_packByBest cX3_packByBest 4 none ∈ lwT := lwT_t (List.mem_of_getElem? (i := 593) (by decide +kernel)) rfl
set_option maxRecDepth 100000 in
theorem wc_X3_packUsually : Cond.code yX3_packUsually cX3_packUsually 4 none ∈ lwT := lwT_t (List.mem_of_getElem? (i := 546) (by decide +kernel)) rfl
set_option maxRecDepth 100000 in
theorem wc_X3_stepToNextOrder : Cond.code yX3_stepToNextOrder cX3_stepToNextOrder 5 (some .int) ∈ lwT := lwT_t (List.mem_of_getElem? (i := 604) (by decide +kernel)) rfl
set_option maxRecDepth 100000 in
theorem wc_X3_swap : Cond.code yX3_swap cX3_swap 4 none ∈ lwT := lwT_t (List.mem_of_getElem? (i := 608) (by decide +kernel)) rfl
set_option maxRecDepth 100000 in
theorem wc_X4_append : Cond.code yX4_append cX4_append 2 none ∈ lwT := lwT_t (List.mem_of_getElem? (i := 332) (by decide +kernel)) rfl
set_option maxRecDepth 100000 in
theorem wc_X4_fail : Cond.code yX4_fail cX4_fail 3 (some .boolean) ∈ lwT := lwT_t (List.mem_of_getElem? (i := 359) (by decide +kernel)) rfl
set_option maxRecDepth 100000 in
theorem wc_X4_isDigit : Cond.code yX4_isDigit cX4_isDigit 1 (some .boolean) ∈ lwT := lwT_t (List.mem_of_getElem? (i := 355) (by decide +kernel)) rfl
set_option maxRecDepth 100000 in
theorem wc_X4_next : Cond.code yX4_next cX4_next 1 (some .char) ∈ lwT := lwT_t (List.mem_of_getElem? (i := 352) (by decide +kernel)) rfl
set_option maxRecDepth 100000 in
theorem wc_X4_read : Cond.code yX4_read cX4_read 2 (some .int) ∈ lwT := lwT_t (List.mem_of_getElem? (i := 344) (by decide +kernel)) rfl
set_option maxRecDepth 100000 in
theorem wc_X4_readLid : Cond.code yX4_readLid cX4_readLid 2 (some .boolean) ∈ lwT := lwT_t (List.mem_of_getElem? (i := 377) (by decide +kernel)) rfl
set_option maxRecDepth 100000 in
theorem wc_X4_readNumber : Cond.code yX4_readNumber cX4_readNumber 3 (some .boolean) ∈ lwT := lwT_t (List.mem_of_getElem? (i := 363) (by decide +kernel)) rfl
set_option maxRecDepth 100000 in
theorem wc_X4_readSign : Cond.code yX4_readSign cX4_readSign 2 (some .boolean) ∈ lwT := lwT_t (List.mem_of_getElem? (i := 368) (by decide +kernel)) rfl
set_option maxRecDepth 100000 in
theorem wc_X4_readTray : Cond.code yX4_readTray cX4_readTray 4 (some .boolean) ∈ lwT := lwT_t (List.mem_of_getElem? (i := 348) (by decide +kernel)) rfl
set_option maxRecDepth 100000 in
theorem wc_X4_readTurn : Cond.code yX4_readTurn cX4_readTurn 2 (some .boolean) ∈ lwT := lwT_t (List.mem_of_getElem? (i := 381) (by decide +kernel)) rfl
set_option maxRecDepth 100000 in
theorem wc_X5_alongX : Cond.code yX5_alongX cX5_alongX 2 (some .int) ∈ lwT := lwT_t (List.mem_of_getElem? (i := 419) (by decide +kernel)) rfl
set_option maxRecDepth 100000 in
theorem wc_X5_alongY : Cond.code yX5_alongY cX5_alongY 2 (some .int) ∈ lwT := lwT_t (List.mem_of_getElem? (i := 423) (by decide +kernel)) rfl
set_option maxRecDepth 100000 in
theorem wc_X5_area : Cond.code yX5_area cX5_area 1 (some .int) ∈ lwT := lwT_t (List.mem_of_getElem? (i := 453) (by decide +kernel)) rfl
set_option maxRecDepth 100000 in
theorem wc_X5_become : Cond.code yX5_become cX5_become 5 none ∈ lwT := lwT_t (List.mem_of_getElem? (i := 372) (by decide +kernel)) rfl
set_option maxRecDepth 100000 in
theorem wc_X5_copyFrom : Cond.code yX5_copyFrom cX5_copyFrom 2 none ∈ lwT := lwT_t (List.mem_of_getElem? (i := 312) (by decide +kernel)) rfl
set_option maxRecDepth 100000 in
theorem wc_X5_covers : Cond.code yX5_covers cX5_covers 3 (some .boolean) ∈ lwT := lwT_t (List.mem_of_getElem? (i := 519) (by decide +kernel)) rfl
set_option maxRecDepth 100000 in
theorem wc_X5_leave : Cond.code yX5_leave cX5_leave 1 none ∈ lwT := lwT_t (List.mem_of_getElem? (i := 320) (by decide +kernel)) rfl
set_option maxRecDepth 100000 in
theorem wc_X5_lie : Cond.code yX5_lie cX5_lie 6 none ∈ lwT := lwT_t (List.mem_of_getElem? (i := 457) (by decide +kernel)) rfl
set_option maxRecDepth 100000 in
theorem wc_X5_liesOn : Cond.code yX5_liesOn cX5_liesOn 2 (some .boolean) ∈ lwT := lwT_t (List.mem_of_getElem? (i := 476) (by decide +kernel)) rfl
set_option maxRecDepth 100000 in
theorem wc_X5_property : Cond.code yX5_property cX5_property 2 (some .int) ∈ lwT := lwT_t (List.mem_of_getElem? (i := 489) (by decide +kernel)) rfl
set_option maxRecDepth 100000 in
theorem wc_X5_tall : Cond.code yX5_tall cX5_tall 1 (some .int) ∈ lwT := lwT_t (List.mem_of_getElem? (i := 443) (by decide +kernel)) rfl
set_option maxRecDepth 100000 in
theorem wc_X6_count : Cond.code yX6_count cX6_count 2 (some .int) ∈ lwT := lwT_t (List.mem_of_getElem? (i := 637) (by decide +kernel)) rfl
set_option maxRecDepth 100000 in
theorem wc_X6_isWithin : Cond.code yX6_isWithin cX6_isWithin 3 (some .boolean) ∈ lwT := lwT_t (List.mem_of_getElem? (i := 286) (by decide +kernel)) rfl
set_option maxRecDepth 100000 in
theorem wc_X6_liftsTo : Cond.code yX6_liftsTo cX6_liftsTo 2 (some .int) ∈ lwT := lwT_t (List.mem_of_getElem? (i := 625) (by decide +kernel)) rfl
set_option maxRecDepth 100000 in
theorem wc_X6_place : Cond.code yX6_place cX6_place 3 (some .int) ∈ lwT := lwT_t (List.mem_of_getElem? (i := 523) (by decide +kernel)) rfl
set_option maxRecDepth 100000 in
theorem wc_X6_placedProperty : Cond.code yX6_placedProperty cX6_placedProperty 4 (some .int) ∈ lwT := lwT_t (List.mem_of_getElem? (i := 493) (by decide +kernel)) rfl
set_option maxRecDepth 100000 in
theorem wc_X6_seen : Cond.code yX6_seen cX6_seen 5 (some .int) ∈ lwT := lwT_t (List.mem_of_getElem? (i := 511) (by decide +kernel)) rfl
set_option maxRecDepth 100000 in
theorem wc_X6_takeOverPacked : Cond.code yX6_takeOverPacked cX6_takeOverPacked 1 (some .int) ∈ lwT := lwT_t (List.mem_of_getElem? (i := 585) (by decide +kernel)) rfl
set_option maxRecDepth 100000 in
theorem wc_X6_tray : Cond.code yX6_tray cX6_tray 3 (some .int) ∈ lwT := lwT_t (List.mem_of_getElem? (i := 485) (by decide +kernel)) rfl
set_option maxRecDepth 100000 in
theorem wc_X7_above : Cond.code yX7_above cX7_above 7 (some .int) ∈ lwT := lwT_t (List.mem_of_getElem? (i := 897) (by decide +kernel)) rfl
set_option maxRecDepth 100000 in
theorem wc_X7_air : Cond.code yX7_air cX7_air 3 (some .int) ∈ lwT := lwT_t (List.mem_of_getElem? (i := 973) (by decide +kernel)) rfl
set_option maxRecDepth 100000 in
theorem wc_X7_along : Cond.code yX7_along cX7_along 4 (some .int) ∈ lwT := lwT_t (List.mem_of_getElem? (i := 761) (by decide +kernel)) rfl
set_option maxRecDepth 100000 in
theorem wc_X7_boxHeight : Cond.code yX7_boxHeight cX7_boxHeight 3 (some .int) ∈ lwT := lwT_t (List.mem_of_getElem? (i := 969) (by decide +kernel)) rfl
set_option maxRecDepth 100000 in
theorem wc_X7_can : Cond.code yX7_can cX7_can 5 (some .boolean) ∈ lwT := lwT_t (List.mem_of_getElem? (i := 793) (by decide +kernel)) rfl
set_option maxRecDepth 100000 in
theorem wc_X7_comes : Cond.code yX7_comes cX7_comes 5 none ∈ lwT := lwT_t (List.mem_of_getElem? (i := 805) (by decide +kernel)) rfl
set_option maxRecDepth 100000 in
theorem wc_X7_comesTo : Cond.code yX7_comesTo cX7_comesTo 2 (some .int) ∈ lwT := lwT_t (List.mem_of_getElem? (i := 961) (by decide +kernel)) rfl
set_option maxRecDepth 100000 in
theorem wc_X7_copies : Cond.code yX7_copies cX7_copies 4 none ∈ lwT := lwT_t (List.mem_of_getElem? (i := 738) (by decide +kernel)) rfl
set_option maxRecDepth 100000 in
theorem wc_X7_count : Cond.code yX7_count cX7_count 2 (some .int) ∈ lwT := lwT_t (List.mem_of_getElem? (i := 1017) (by decide +kernel)) rfl
set_option maxRecDepth 100000 in
theorem wc_X7_covers : Cond.code yX7_covers cX7_covers 4 (some .boolean) ∈ lwT := lwT_t (List.mem_of_getElem? (i := 777) (by decide +kernel)) rfl
set_option maxRecDepth 100000 in
theorem wc_X7_empties : Cond.code yX7_empties cX7_empties 2 none ∈ lwT := lwT_t (List.mem_of_getElem? (i := 873) (by decide +kernel)) rfl
set_option maxRecDepth 100000 in
theorem wc_X7_fails : Cond.code yX7_fails cX7_fails 3 (some .boolean) ∈ lwT := lwT_t (List.mem_of_getElem? (i := 837) (by decide +kernel)) rfl
set_option maxRecDepth 100000 in
theorem wc_X7_fault : Cond.code yX7_fault cX7_fault 5 (some .int) ∈ lwT := lwT_t (List.mem_of_getElem? (i := 921) (by decide +kernel)) rfl
set_option maxRecDepth 100000 in
theorem wc_X7_faults : Cond.code yX7_faults cX7_faults 3 (some .int) ∈ lwT := lwT_t (List.mem_of_getElem? (i := 965) (by decide +kernel)) rfl
set_option maxRecDepth 100000 in
theorem wc_X7_finds : Cond.code yX7_finds cX7_finds 7 none ∈ lwT := lwT_t (List.mem_of_getElem? (i := 937) (by decide +kernel)) rfl
set_option maxRecDepth 100000 in
theorem wc_X7_frees : Cond.code yX7_frees cX7_frees 3 (some .int) ∈ lwT := lwT_t (List.mem_of_getElem? (i := 1021) (by decide +kernel)) rfl
set_option maxRecDepth 100000 in
theorem wc_X7_gets : Cond.code yX7_gets cX7_gets 6 (some .int) ∈ lwT := lwT_t (List.mem_of_getElem? (i := 1009) (by decide +kernel)) rfl
set_option maxRecDepth 100000 in
theorem wc_X7_here : Cond.code yX7_here cX7_here 1 (some .int) ∈ lwT := lwT_t (List.mem_of_getElem? (i := 833) (by decide +kernel)) rfl
set_option maxRecDepth 100000 in
theorem wc_X7_high : Cond.code yX7_high cX7_high 2 (some .int) ∈ lwT := lwT_t (List.mem_of_getElem? (i := 789) (by decide +kernel)) rfl
set_option maxRecDepth 100000 in
theorem wc_X7_ifPacked : Cond.code yX7_ifPacked cX7_ifPacked 4 (some .int) ∈ lwT := lwT_t (List.mem_of_getElem? (i := 997) (by decide +kernel)) rfl
set_option maxRecDepth 100000 in
theorem wc_X7_in : Cond.code yX7_in cX7_in 3 (some .boolean) ∈ lwT := lwT_t (List.mem_of_getElem? (i := 753) (by decide +kernel)) rfl
set_option maxRecDepth 100000 in
theorem wc_X7_inBox : Cond.code yX7_inBox cX7_inBox 3 (some .int) ∈ lwT := lwT_t (List.mem_of_getElem? (i := 869) (by decide +kernel)) rfl
set_option maxRecDepth 100000 in
theorem wc_X7_isAhead : Cond.code yX7_isAhead cX7_isAhead 5 (some .boolean) ∈ lwT := lwT_t (List.mem_of_getElem? (i := 953) (by decide +kernel)) rfl
set_option maxRecDepth 100000 in
theorem wc_X7_isBetter : Cond.code yX7_isBetter cX7_isBetter 2 (some .boolean) ∈ lwT := lwT_t (List.mem_of_getElem? (i := 985) (by decide +kernel)) rfl
set_option maxRecDepth 100000 in
theorem wc_X7_isDigit : Cond.code yX7_isDigit cX7_isDigit 1 (some .boolean) ∈ lwT := lwT_t (List.mem_of_getElem? (i := 829) (by decide +kernel)) rfl
set_option maxRecDepth 100000 in
theorem wc_X7_isIn : Cond.code yX7_isIn cX7_isIn 2 (some .boolean) ∈ lwT := lwT_t (List.mem_of_getElem? (i := 769) (by decide +kernel)) rfl
set_option maxRecDepth 100000 in
theorem wc_X7_isInside : Cond.code yX7_isInside cX7_isInside 5 (some .boolean) ∈ lwT := lwT_t (List.mem_of_getElem? (i := 757) (by decide +kernel)) rfl
set_option maxRecDepth 100000 in
theorem wc_X7_isTray : Cond.code yX7_isTray cX7_isTray 2 (some .boolean) ∈ lwT := lwT_t (List.mem_of_getElem? (i := 746) (by decide +kernel)) rfl
set_option maxRecDepth 100000 in
theorem wc_X7_laysTops : Cond.code yX7_laysTops cX7_laysTops 3 none ∈ lwT := lwT_t (List.mem_of_getElem? (i := 773) (by decide +kernel)) rfl
set_option maxRecDepth 100000 in
theorem wc_X7_leaves : Cond.code yX7_leaves cX7_leaves 3 none ∈ lwT := lwT_t (List.mem_of_getElem? (i := 841) (by decide +kernel)) rfl
set_option maxRecDepth 100000 in
theorem wc_X7_liesOn : Cond.code yX7_liesOn cX7_liesOn 3 (some .boolean) ∈ lwT := lwT_t (List.mem_of_getElem? (i := 901) (by decide +kernel)) rfl
set_option maxRecDepth 100000 in
theorem wc_X7_lift : Cond.code yX7_lift cX7_lift 4 (some .int) ∈ lwT := lwT_t (List.mem_of_getElem? (i := 917) (by decide +kernel)) rfl
set_option maxRecDepth 100000 in
theorem wc_X7_lifts : Cond.code yX7_lifts cX7_lifts 3 (some .int) ∈ lwT := lwT_t (List.mem_of_getElem? (i := 1025) (by decide +kernel)) rfl
set_option maxRecDepth 100000 in
theorem wc_X7_liftsTo : Cond.code yX7_liftsTo cX7_liftsTo 3 (some .int) ∈ lwT := lwT_t (List.mem_of_getElem? (i := 1013) (by decide +kernel)) rfl
set_option maxRecDepth 100000 in
theorem wc_X7_looksAt : Cond.code yX7_looksAt cX7_looksAt 8 none ∈ lwT := lwT_t (List.mem_of_getElem? (i := 797) (by decide +kernel)) rfl
set_option maxRecDepth 100000 in
theorem wc_X7_meet : Cond.code yX7_meet cX7_meet 4 (some .boolean) ∈ lwT := lwT_t (List.mem_of_getElem? (i := 905) (by decide +kernel)) rfl
set_option maxRecDepth 100000 in
theorem wc_X7_mixes : Cond.code yX7_mixes cX7_mixes 2 none ∈ lwT := lwT_t (List.mem_of_getElem? (i := 1035) (by decide +kernel)) rfl
set_option maxRecDepth 100000 in
theorem wc_X7_of : Cond.code yX7_of cX7_of 3 (some .int) ∈ lwT := lwT_t (List.mem_of_getElem? (i := 765) (by decide +kernel)) rfl
set_option maxRecDepth 100000 in
theorem wc_X7_ordersBest : Cond.code yX7_ordersBest cX7_ordersBest 4 none ∈ lwT := lwT_t (List.mem_of_getElem? (i := 981) (by decide +kernel)) rfl
set_option maxRecDepth 100000 in
theorem wc_X7_ordersNext : Cond.code yX7_ordersNext cX7_ordersNext 5 (some .boolean) ∈ lwT := lwT_t (List.mem_of_getElem? (i := 989) (by decide +kernel)) rfl
set_option maxRecDepth 100000 in
theorem wc_X7_ordersUsually : Cond.code yX7_ordersUsually cX7_ordersUsually 3 none ∈ lwT := lwT_t (List.mem_of_getElem? (i := 949) (by decide +kernel)) rfl
set_option maxRecDepth 100000 in
theorem wc_X7_packs : Cond.code yX7_packs cX7_packs 2 none ∈ lwT := lwT_t (List.mem_of_getElem? (i := 957) (by decide +kernel)) rfl
set_option maxRecDepth 100000 in
theorem wc_X7_place : Cond.code yX7_place cX7_place 3 (some .int) ∈ lwT := lwT_t (List.mem_of_getElem? (i := 933) (by decide +kernel)) rfl
set_option maxRecDepth 100000 in
theorem wc_X7_plays : Cond.code yX7_plays cX7_plays 6 (some .int) ∈ lwT := lwT_t (List.mem_of_getElem? (i := 1005) (by decide +kernel)) rfl
set_option maxRecDepth 100000 in
theorem wc_X7_readsInto : Cond.code yX7_readsInto cX7_readsInto 5 (some .boolean) ∈ lwT := lwT_t (List.mem_of_getElem? (i := 845) (by decide +kernel)) rfl
set_option maxRecDepth 100000 in
theorem wc_X7_readsNumber : Cond.code yX7_readsNumber cX7_readsNumber 5 (some .boolean) ∈ lwT := lwT_t (List.mem_of_getElem? (i := 849) (by decide +kernel)) rfl
set_option maxRecDepth 100000 in
theorem wc_X7_readsTray : Cond.code yX7_readsTray cX7_readsTray 2 (some .boolean) ∈ lwT := lwT_t (List.mem_of_getElem? (i := 825) (by decide +kernel)) rfl
set_option maxRecDepth 100000 in
theorem wc_X7_records : Cond.code yX7_records cX7_records 2 none ∈ lwT := lwT_t (List.mem_of_getElem? (i := 801) (by decide +kernel)) rfl
set_option maxRecDepth 100000 in
theorem wc_X7_recordsKept : Cond.code yX7_recordsKept cX7_recordsKept 4 none ∈ lwT := lwT_t (List.mem_of_getElem? (i := 857) (by decide +kernel)) rfl
set_option maxRecDepth 100000 in
theorem wc_X7_rests : Cond.code yX7_rests cX7_rests 6 (some .int) ∈ lwT := lwT_t (List.mem_of_getElem? (i := 925) (by decide +kernel)) rfl
set_option maxRecDepth 100000 in
theorem wc_X7_seen : Cond.code yX7_seen cX7_seen 7 (some .int) ∈ lwT := lwT_t (List.mem_of_getElem? (i := 929) (by decide +kernel)) rfl
set_option maxRecDepth 100000 in
theorem wc_X7_sets : Cond.code yX7_sets cX7_sets 4 none ∈ lwT := lwT_t (List.mem_of_getElem? (i := 809) (by decide +kernel)) rfl
set_option maxRecDepth 100000 in
theorem wc_X7_spans : Cond.code yX7_spans cX7_spans 3 (some .int) ∈ lwT := lwT_t (List.mem_of_getElem? (i := 781) (by decide +kernel)) rfl
set_option maxRecDepth 100000 in
theorem wc_X7_swaps : Cond.code yX7_swaps cX7_swaps 4 none ∈ lwT := lwT_t (List.mem_of_getElem? (i := 993) (by decide +kernel)) rfl
set_option maxRecDepth 100000 in
theorem wc_X7_takes : Cond.code yX7_takes cX7_takes 2 (some .boolean) ∈ lwT := lwT_t (List.mem_of_getElem? (i := 853) (by decide +kernel)) rfl
set_option maxRecDepth 100000 in
theorem wc_X7_top : Cond.code yX7_top cX7_top 2 (some .int) ∈ lwT := lwT_t (List.mem_of_getElem? (i := 785) (by decide +kernel)) rfl
set_option maxRecDepth 100000 in
theorem wc_X7_tray : Cond.code yX7_tray cX7_tray 3 (some .int) ∈ lwT := lwT_t (List.mem_of_getElem? (i := 913) (by decide +kernel)) rfl
set_option maxRecDepth 100000 in
theorem wc_X7_trays : Cond.code yX7_trays cX7_trays 1 (some .int) ∈ lwT := lwT_t (List.mem_of_getElem? (i := 750) (by decide +kernel)) rfl
set_option maxRecDepth 100000 in
theorem wf_X0_15 : Cond.fieldLink RX0 15 "TrayBox$Box" "length" "I" ∈ lwT := lwT_t (List.mem_of_getElem? (i := 102) (by decide +kernel)) rfl
set_option maxRecDepth 100000 in
theorem wf_X0_18 : Cond.fieldLink RX0 18 "TrayBox$Box" "depth" "I" ∈ lwT := lwT_t (List.mem_of_getElem? (i := 105) (by decide +kernel)) rfl
set_option maxRecDepth 100000 in
theorem wf_X0_21 : Cond.fieldLink RX0 21 "TrayBox$Box" "share" "I" ∈ lwT := lwT_t (List.mem_of_getElem? (i := 107) (by decide +kernel)) rfl
set_option maxRecDepth 100000 in
theorem wf_X0_26 : Cond.fieldLink RX0 26 "TrayBox$Box" "row" "[LTrayBox$Tray;" ∈ lwT := lwT_t (List.mem_of_getElem? (i := 115) (by decide +kernel)) rfl
set_option maxRecDepth 100000 in
theorem wf_X0_35 : Cond.fieldLink RX0 35 "TrayBox$Box" "trays" "I" ∈ lwT := lwT_t (List.mem_of_getElem? (i := 112) (by decide +kernel)) rfl
set_option maxRecDepth 100000 in
theorem wf_X0_56 : Cond.fieldLink RX0 56 "TrayBox$Tray" "inside" "Z" ∈ lwT := lwT_t (List.mem_of_getElem? (i := 48) (by decide +kernel)) rfl
set_option maxRecDepth 100000 in
theorem wf_X0_64 : Cond.fieldLink RX0 64 "TrayBox$Tray" "top" "I" ∈ lwT := lwT_t (List.mem_of_getElem? (i := 66) (by decide +kernel)) rfl
set_option maxRecDepth 100000 in
theorem wf_X0_81 : Cond.fieldLink RX0 81 "TrayBox$Tray" "turn" "I" ∈ lwT := lwT_t (List.mem_of_getElem? (i := 42) (by decide +kernel)) rfl
set_option maxRecDepth 100000 in
theorem wf_X0_9 : Cond.fieldLink RX0 9 "TrayBox$Box" "width" "I" ∈ lwT := lwT_t (List.mem_of_getElem? (i := 99) (by decide +kernel)) rfl
set_option maxRecDepth 100000 in
theorem wf_X1_106 : Cond.fieldLink RX1 106 "TrayBox$Finder" "bestX" "I" ∈ lwT := lwT_t (List.mem_of_getElem? (i := 199) (by decide +kernel)) rfl
set_option maxRecDepth 100000 in
theorem wf_X1_109 : Cond.fieldLink RX1 109 "TrayBox$Finder" "bestY" "I" ∈ lwT := lwT_t (List.mem_of_getElem? (i := 202) (by decide +kernel)) rfl
set_option maxRecDepth 100000 in
theorem wf_X1_112 : Cond.fieldLink RX1 112 "TrayBox$Finder" "bestTurned" "Z" ∈ lwT := lwT_t (List.mem_of_getElem? (i := 205) (by decide +kernel)) rfl
set_option maxRecDepth 100000 in
theorem wf_X1_115 : Cond.fieldLink RX1 115 "TrayBox$Finder" "bestFloor" "I" ∈ lwT := lwT_t (List.mem_of_getElem? (i := 208) (by decide +kernel)) rfl
set_option maxRecDepth 100000 in
theorem wf_X1_118 : Cond.fieldLink RX1 118 "TrayBox$Finder" "bestRest" "I" ∈ lwT := lwT_t (List.mem_of_getElem? (i := 211) (by decide +kernel)) rfl
set_option maxRecDepth 100000 in
theorem wf_X1_15 : Cond.fieldLink RX1 15 "TrayBox$Box" "trays" "I" ∈ lwT := lwT_t (List.mem_of_getElem? (i := 111) (by decide +kernel)) rfl
set_option maxRecDepth 100000 in
theorem wf_X1_21 : Cond.fieldLink RX1 21 "TrayBox$Box" "row" "[LTrayBox$Tray;" ∈ lwT := lwT_t (List.mem_of_getElem? (i := 117) (by decide +kernel)) rfl
set_option maxRecDepth 100000 in
theorem wf_X1_29 : Cond.fieldLink RX1 29 "TrayBox$Tray" "inside" "Z" ∈ lwT := lwT_t (List.mem_of_getElem? (i := 46) (by decide +kernel)) rfl
set_option maxRecDepth 100000 in
theorem wf_X1_35 : Cond.fieldLink RX1 35 "TrayBox$Tray" "x" "I" ∈ lwT := lwT_t (List.mem_of_getElem? (i := 52) (by decide +kernel)) rfl
set_option maxRecDepth 100000 in
theorem wf_X1_38 : Cond.fieldLink RX1 38 "TrayBox$Tray" "y" "I" ∈ lwT := lwT_t (List.mem_of_getElem? (i := 55) (by decide +kernel)) rfl
set_option maxRecDepth 100000 in
theorem wf_X1_41 : Cond.fieldLink RX1 41 "TrayBox$Tray" "turned" "Z" ∈ lwT := lwT_t (List.mem_of_getElem? (i := 50) (by decide +kernel)) rfl
set_option maxRecDepth 100000 in
theorem wf_X1_48 : Cond.fieldLink RX1 48 "TrayBox$Tray" "endY" "I" ∈ lwT := lwT_t (List.mem_of_getElem? (i := 60) (by decide +kernel)) rfl
set_option maxRecDepth 100000 in
theorem wf_X1_51 : Cond.fieldLink RX1 51 "TrayBox$Tray" "endX" "I" ∈ lwT := lwT_t (List.mem_of_getElem? (i := 58) (by decide +kernel)) rfl
set_option maxRecDepth 100000 in
theorem wf_X1_54 : Cond.fieldLink RX1 54 "TrayBox$Tray" "top" "I" ∈ lwT := lwT_t (List.mem_of_getElem? (i := 64) (by decide +kernel)) rfl
set_option maxRecDepth 100000 in
theorem wf_X1_63 : Cond.fieldLink RX1 63 "TrayBox$Finder" "floor" "I" ∈ lwT := lwT_t (List.mem_of_getElem? (i := 191) (by decide +kernel)) rfl
set_option maxRecDepth 100000 in
theorem wf_X1_66 : Cond.fieldLink RX1 66 "TrayBox$Finder" "rest" "I" ∈ lwT := lwT_t (List.mem_of_getElem? (i := 193) (by decide +kernel)) rfl
set_option maxRecDepth 100000 in
theorem wf_X1_76 : Cond.fieldLink RX1 76 "TrayBox$Box" "share" "I" ∈ lwT := lwT_t (List.mem_of_getElem? (i := 109) (by decide +kernel)) rfl
set_option maxRecDepth 100000 in
theorem wf_X1_83 : Cond.fieldLink RX1 83 "TrayBox$Finder" "found" "I" ∈ lwT := lwT_t (List.mem_of_getElem? (i := 195) (by decide +kernel)) rfl
set_option maxRecDepth 100000 in
theorem wf_X1_9 : Cond.fieldLink RX1 9 "TrayBox$Finder" "tops" "[I" ∈ lwT := lwT_t (List.mem_of_getElem? (i := 190) (by decide +kernel)) rfl
set_option maxRecDepth 100000 in
theorem wf_X1_90 : Cond.fieldLink RX1 90 "TrayBox$Tray" "width" "I" ∈ lwT := lwT_t (List.mem_of_getElem? (i := 34) (by decide +kernel)) rfl
set_option maxRecDepth 100000 in
theorem wf_X1_93 : Cond.fieldLink RX1 93 "TrayBox$Tray" "length" "I" ∈ lwT := lwT_t (List.mem_of_getElem? (i := 36) (by decide +kernel)) rfl
set_option maxRecDepth 100000 in
theorem wf_X1_96 : Cond.fieldLink RX1 96 "TrayBox$Box" "length" "I" ∈ lwT := lwT_t (List.mem_of_getElem? (i := 104) (by decide +kernel)) rfl
set_option maxRecDepth 100000 in
theorem wf_X1_97 : Cond.fieldLink RX1 97 "TrayBox$Box" "width" "I" ∈ lwT := lwT_t (List.mem_of_getElem? (i := 101) (by decide +kernel)) rfl
set_option maxRecDepth 100000 in
theorem wf_X2_11 : Cond.fieldLink RX2 11 "TrayBox$History" "ring" "[LTrayBox$Box;" ∈ lwT := lwT_t (List.mem_of_getElem? (i := 145) (by decide +kernel)) rfl
set_option maxRecDepth 100000 in
theorem wf_X2_18 : Cond.fieldLink RX2 18 "TrayBox$History" "size" "I" ∈ lwT := lwT_t (List.mem_of_getElem? (i := 142) (by decide +kernel)) rfl
set_option maxRecDepth 100000 in
theorem wf_X2_22 : Cond.fieldLink RX2 22 "TrayBox$History" "oldest" "I" ∈ lwT := lwT_t (List.mem_of_getElem? (i := 144) (by decide +kernel)) rfl
set_option maxRecDepth 100000 in
theorem wf_X3_100 : Cond.fieldLink RX3 100 "TrayBox$Finder" "bestY" "I" ∈ lwT := lwT_t (List.mem_of_getElem? (i := 201) (by decide +kernel)) rfl
set_option maxRecDepth 100000 in
theorem wf_X3_103 : Cond.fieldLink RX3 103 "TrayBox$Finder" "bestTurned" "Z" ∈ lwT := lwT_t (List.mem_of_getElem? (i := 204) (by decide +kernel)) rfl
set_option maxRecDepth 100000 in
theorem wf_X3_107 : Cond.fieldLink RX3 107 "TrayBox$Finder" "bestFloor" "I" ∈ lwT := lwT_t (List.mem_of_getElem? (i := 207) (by decide +kernel)) rfl
set_option maxRecDepth 100000 in
theorem wf_X3_110 : Cond.fieldLink RX3 110 "TrayBox$Finder" "bestRest" "I" ∈ lwT := lwT_t (List.mem_of_getElem? (i := 210) (by decide +kernel)) rfl
set_option maxRecDepth 100000 in
theorem wf_X3_15 : Cond.fieldLink RX3 15 "TrayBox$Packer" "figures" "[I" ∈ lwT := lwT_t (List.mem_of_getElem? (i := 244) (by decide +kernel)) rfl
set_option maxRecDepth 100000 in
theorem wf_X3_21 : Cond.fieldLink RX3 21 "TrayBox$Packer" "trial" "LTrayBox$Box;" ∈ lwT := lwT_t (List.mem_of_getElem? (i := 246) (by decide +kernel)) rfl
set_option maxRecDepth 100000 in
theorem wf_X3_25 : Cond.fieldLink RX3 25 "TrayBox$Packer" "triedOrder" "[I" ∈ lwT := lwT_t (List.mem_of_getElem? (i := 248) (by decide +kernel)) rfl
set_option maxRecDepth 100000 in
theorem wf_X3_28 : Cond.fieldLink RX3 28 "TrayBox$Packer" "triedFigures" "[I" ∈ lwT := lwT_t (List.mem_of_getElem? (i := 249) (by decide +kernel)) rfl
set_option maxRecDepth 100000 in
theorem wf_X3_34 : Cond.fieldLink RX3 34 "TrayBox$Packer" "finder" "LTrayBox$Finder;" ∈ lwT := lwT_t (List.mem_of_getElem? (i := 250) (by decide +kernel)) rfl
set_option maxRecDepth 100000 in
theorem wf_X3_42 : Cond.fieldLink RX3 42 "TrayBox$Box" "trays" "I" ∈ lwT := lwT_t (List.mem_of_getElem? (i := 110) (by decide +kernel)) rfl
set_option maxRecDepth 100000 in
theorem wf_X3_46 : Cond.fieldLink RX3 46 "TrayBox$Box" "row" "[LTrayBox$Tray;" ∈ lwT := lwT_t (List.mem_of_getElem? (i := 116) (by decide +kernel)) rfl
set_option maxRecDepth 100000 in
theorem wf_X3_62 : Cond.fieldLink RX3 62 "TrayBox$Tray" "turn" "I" ∈ lwT := lwT_t (List.mem_of_getElem? (i := 39) (by decide +kernel)) rfl
set_option maxRecDepth 100000 in
theorem wf_X3_9 : Cond.fieldLink RX3 9 "TrayBox$Packer" "order" "[I" ∈ lwT := lwT_t (List.mem_of_getElem? (i := 242) (by decide +kernel)) rfl
set_option maxRecDepth 100000 in
theorem wf_X3_94 : Cond.fieldLink RX3 94 "TrayBox$Finder" "found" "I" ∈ lwT := lwT_t (List.mem_of_getElem? (i := 196) (by decide +kernel)) rfl
set_option maxRecDepth 100000 in
theorem wf_X3_97 : Cond.fieldLink RX3 97 "TrayBox$Finder" "bestX" "I" ∈ lwT := lwT_t (List.mem_of_getElem? (i := 198) (by decide +kernel)) rfl
set_option maxRecDepth 100000 in
theorem wf_X4_18 : Cond.fieldLink RX4 18 "TrayBox$Text" "result" "LTrayBox$Box;" ∈ lwT := lwT_t (List.mem_of_getElem? (i := 165) (by decide +kernel)) rfl
set_option maxRecDepth 100000 in
theorem wf_X4_22 : Cond.fieldLink RX4 22 "TrayBox$Text" "signs" "[C" ∈ lwT := lwT_t (List.mem_of_getElem? (i := 167) (by decide +kernel)) rfl
set_option maxRecDepth 100000 in
theorem wf_X4_26 : Cond.fieldLink RX4 26 "TrayBox$Text" "length" "I" ∈ lwT := lwT_t (List.mem_of_getElem? (i := 161) (by decide +kernel)) rfl
set_option maxRecDepth 100000 in
theorem wf_X4_29 : Cond.fieldLink RX4 29 "TrayBox$Text" "at" "I" ∈ lwT := lwT_t (List.mem_of_getElem? (i := 168) (by decide +kernel)) rfl
set_option maxRecDepth 100000 in
theorem wf_X4_32 : Cond.fieldLink RX4 32 "TrayBox$Box" "trays" "I" ∈ lwT := lwT_t (List.mem_of_getElem? (i := 113) (by decide +kernel)) rfl
set_option maxRecDepth 100000 in
theorem wf_X4_55 : Cond.fieldLink RX4 55 "TrayBox$Text" "number" "I" ∈ lwT := lwT_t (List.mem_of_getElem? (i := 169) (by decide +kernel)) rfl
set_option maxRecDepth 100000 in
theorem wf_X4_61 : Cond.fieldLink RX4 61 "TrayBox$Box" "row" "[LTrayBox$Tray;" ∈ lwT := lwT_t (List.mem_of_getElem? (i := 118) (by decide +kernel)) rfl
set_option maxRecDepth 100000 in
theorem wf_X4_82 : Cond.fieldLink RX4 82 "TrayBox$Tray" "lid" "I" ∈ lwT := lwT_t (List.mem_of_getElem? (i := 44) (by decide +kernel)) rfl
set_option maxRecDepth 100000 in
theorem wf_X4_85 : Cond.fieldLink RX4 85 "TrayBox$Tray" "turn" "I" ∈ lwT := lwT_t (List.mem_of_getElem? (i := 40) (by decide +kernel)) rfl
set_option maxRecDepth 100000 in
theorem wf_X4_9 : Cond.fieldLink RX4 9 "TrayBox$Text" "fault" "I" ∈ lwT := lwT_t (List.mem_of_getElem? (i := 163) (by decide +kernel)) rfl
set_option maxRecDepth 100000 in
theorem wf_X5_13 : Cond.fieldLink RX5 13 "TrayBox$Tray" "length" "I" ∈ lwT := lwT_t (List.mem_of_getElem? (i := 35) (by decide +kernel)) rfl
set_option maxRecDepth 100000 in
theorem wf_X5_16 : Cond.fieldLink RX5 16 "TrayBox$Tray" "height" "I" ∈ lwT := lwT_t (List.mem_of_getElem? (i := 37) (by decide +kernel)) rfl
set_option maxRecDepth 100000 in
theorem wf_X5_19 : Cond.fieldLink RX5 19 "TrayBox$Tray" "turn" "I" ∈ lwT := lwT_t (List.mem_of_getElem? (i := 38) (by decide +kernel)) rfl
set_option maxRecDepth 100000 in
theorem wf_X5_22 : Cond.fieldLink RX5 22 "TrayBox$Tray" "lid" "I" ∈ lwT := lwT_t (List.mem_of_getElem? (i := 43) (by decide +kernel)) rfl
set_option maxRecDepth 100000 in
theorem wf_X5_28 : Cond.fieldLink RX5 28 "TrayBox$Tray" "inside" "Z" ∈ lwT := lwT_t (List.mem_of_getElem? (i := 47) (by decide +kernel)) rfl
set_option maxRecDepth 100000 in
theorem wf_X5_32 : Cond.fieldLink RX5 32 "TrayBox$Tray" "turned" "Z" ∈ lwT := lwT_t (List.mem_of_getElem? (i := 51) (by decide +kernel)) rfl
set_option maxRecDepth 100000 in
theorem wf_X5_35 : Cond.fieldLink RX5 35 "TrayBox$Tray" "x" "I" ∈ lwT := lwT_t (List.mem_of_getElem? (i := 53) (by decide +kernel)) rfl
set_option maxRecDepth 100000 in
theorem wf_X5_38 : Cond.fieldLink RX5 38 "TrayBox$Tray" "y" "I" ∈ lwT := lwT_t (List.mem_of_getElem? (i := 56) (by decide +kernel)) rfl
set_option maxRecDepth 100000 in
theorem wf_X5_41 : Cond.fieldLink RX5 41 "TrayBox$Tray" "endX" "I" ∈ lwT := lwT_t (List.mem_of_getElem? (i := 59) (by decide +kernel)) rfl
set_option maxRecDepth 100000 in
theorem wf_X5_44 : Cond.fieldLink RX5 44 "TrayBox$Tray" "endY" "I" ∈ lwT := lwT_t (List.mem_of_getElem? (i := 61) (by decide +kernel)) rfl
set_option maxRecDepth 100000 in
theorem wf_X5_47 : Cond.fieldLink RX5 47 "TrayBox$Tray" "floor" "I" ∈ lwT := lwT_t (List.mem_of_getElem? (i := 62) (by decide +kernel)) rfl
set_option maxRecDepth 100000 in
theorem wf_X5_50 : Cond.fieldLink RX5 50 "TrayBox$Tray" "top" "I" ∈ lwT := lwT_t (List.mem_of_getElem? (i := 65) (by decide +kernel)) rfl
set_option maxRecDepth 100000 in
theorem wf_X5_53 : Cond.fieldLink RX5 53 "TrayBox$Tray" "rest" "I" ∈ lwT := lwT_t (List.mem_of_getElem? (i := 68) (by decide +kernel)) rfl
set_option maxRecDepth 100000 in
theorem wf_X5_7 : Cond.fieldLink RX5 7 "TrayBox$Tray" "width" "I" ∈ lwT := lwT_t (List.mem_of_getElem? (i := 33) (by decide +kernel)) rfl
set_option maxRecDepth 100000 in
theorem wf_X6_10 : Cond.fieldLink RX6 10 "TrayBox" "box" "LTrayBox$Box;" ∈ lwT := lwT_t (List.mem_of_getElem? (i := 264) (by decide +kernel)) rfl
set_option maxRecDepth 100000 in
theorem wf_X6_112 : Cond.fieldLink RX6 112 "TrayBox$Tray" "inside" "Z" ∈ lwT := lwT_t (List.mem_of_getElem? (i := 49) (by decide +kernel)) rfl
set_option maxRecDepth 100000 in
theorem wf_X6_119 : Cond.fieldLink RX6 119 "TrayBox$Tray" "turn" "I" ∈ lwT := lwT_t (List.mem_of_getElem? (i := 41) (by decide +kernel)) rfl
set_option maxRecDepth 100000 in
theorem wf_X6_122 : Cond.fieldLink RX6 122 "TrayBox$Tray" "lid" "I" ∈ lwT := lwT_t (List.mem_of_getElem? (i := 45) (by decide +kernel)) rfl
set_option maxRecDepth 100000 in
theorem wf_X6_140 : Cond.fieldLink RX6 140 "TrayBox$Finder" "floor" "I" ∈ lwT := lwT_t (List.mem_of_getElem? (i := 192) (by decide +kernel)) rfl
set_option maxRecDepth 100000 in
theorem wf_X6_143 : Cond.fieldLink RX6 143 "TrayBox$Finder" "rest" "I" ∈ lwT := lwT_t (List.mem_of_getElem? (i := 194) (by decide +kernel)) rfl
set_option maxRecDepth 100000 in
theorem wf_X6_150 : Cond.fieldLink RX6 150 "TrayBox$Tray" "floor" "I" ∈ lwT := lwT_t (List.mem_of_getElem? (i := 63) (by decide +kernel)) rfl
set_option maxRecDepth 100000 in
theorem wf_X6_167 : Cond.fieldLink RX6 167 "TrayBox$Tray" "top" "I" ∈ lwT := lwT_t (List.mem_of_getElem? (i := 67) (by decide +kernel)) rfl
set_option maxRecDepth 100000 in
theorem wf_X6_174 : Cond.fieldLink RX6 174 "TrayBox$Finder" "found" "I" ∈ lwT := lwT_t (List.mem_of_getElem? (i := 197) (by decide +kernel)) rfl
set_option maxRecDepth 100000 in
theorem wf_X6_177 : Cond.fieldLink RX6 177 "TrayBox$Finder" "bestX" "I" ∈ lwT := lwT_t (List.mem_of_getElem? (i := 200) (by decide +kernel)) rfl
set_option maxRecDepth 100000 in
theorem wf_X6_180 : Cond.fieldLink RX6 180 "TrayBox$Finder" "bestY" "I" ∈ lwT := lwT_t (List.mem_of_getElem? (i := 203) (by decide +kernel)) rfl
set_option maxRecDepth 100000 in
theorem wf_X6_183 : Cond.fieldLink RX6 183 "TrayBox$Finder" "bestTurned" "Z" ∈ lwT := lwT_t (List.mem_of_getElem? (i := 206) (by decide +kernel)) rfl
set_option maxRecDepth 100000 in
theorem wf_X6_186 : Cond.fieldLink RX6 186 "TrayBox$Finder" "bestFloor" "I" ∈ lwT := lwT_t (List.mem_of_getElem? (i := 209) (by decide +kernel)) rfl
set_option maxRecDepth 100000 in
theorem wf_X6_19 : Cond.fieldLink RX6 19 "TrayBox" "history" "LTrayBox$History;" ∈ lwT := lwT_t (List.mem_of_getElem? (i := 265) (by decide +kernel)) rfl
set_option maxRecDepth 100000 in
theorem wf_X6_201 : Cond.fieldLink RX6 201 "TrayBox$Packer" "figures" "[I" ∈ lwT := lwT_t (List.mem_of_getElem? (i := 245) (by decide +kernel)) rfl
set_option maxRecDepth 100000 in
theorem wf_X6_205 : Cond.fieldLink RX6 205 "TrayBox$Packer" "order" "[I" ∈ lwT := lwT_t (List.mem_of_getElem? (i := 243) (by decide +kernel)) rfl
set_option maxRecDepth 100000 in
theorem wf_X6_211 : Cond.fieldLink RX6 211 "TrayBox$History" "size" "I" ∈ lwT := lwT_t (List.mem_of_getElem? (i := 143) (by decide +kernel)) rfl
set_option maxRecDepth 100000 in
theorem wf_X6_252 : Cond.fieldLink RX6 252 "TrayBox$Tray" "x" "I" ∈ lwT := lwT_t (List.mem_of_getElem? (i := 54) (by decide +kernel)) rfl
set_option maxRecDepth 100000 in
theorem wf_X6_255 : Cond.fieldLink RX6 255 "TrayBox$Tray" "y" "I" ∈ lwT := lwT_t (List.mem_of_getElem? (i := 57) (by decide +kernel)) rfl
set_option maxRecDepth 100000 in
theorem wf_X6_26 : Cond.fieldLink RX6 26 "TrayBox" "text" "LTrayBox$Text;" ∈ lwT := lwT_t (List.mem_of_getElem? (i := 266) (by decide +kernel)) rfl
set_option maxRecDepth 100000 in
theorem wf_X6_264 : Cond.fieldLink RX6 264 "TrayBox$Tray" "rest" "I" ∈ lwT := lwT_t (List.mem_of_getElem? (i := 69) (by decide +kernel)) rfl
set_option maxRecDepth 100000 in
theorem wf_X6_265 : Cond.fieldLink RX6 265 "TrayBox$Packer" "trial" "LTrayBox$Box;" ∈ lwT := lwT_t (List.mem_of_getElem? (i := 247) (by decide +kernel)) rfl
set_option maxRecDepth 100000 in
theorem wf_X6_33 : Cond.fieldLink RX6 33 "TrayBox" "finder" "LTrayBox$Finder;" ∈ lwT := lwT_t (List.mem_of_getElem? (i := 267) (by decide +kernel)) rfl
set_option maxRecDepth 100000 in
theorem wf_X6_40 : Cond.fieldLink RX6 40 "TrayBox" "packer" "LTrayBox$Packer;" ∈ lwT := lwT_t (List.mem_of_getElem? (i := 268) (by decide +kernel)) rfl
set_option maxRecDepth 100000 in
theorem wf_X6_65 : Cond.fieldLink RX6 65 "TrayBox$Box" "width" "I" ∈ lwT := lwT_t (List.mem_of_getElem? (i := 100) (by decide +kernel)) rfl
set_option maxRecDepth 100000 in
theorem wf_X6_69 : Cond.fieldLink RX6 69 "TrayBox$Box" "length" "I" ∈ lwT := lwT_t (List.mem_of_getElem? (i := 103) (by decide +kernel)) rfl
set_option maxRecDepth 100000 in
theorem wf_X6_72 : Cond.fieldLink RX6 72 "TrayBox$Box" "depth" "I" ∈ lwT := lwT_t (List.mem_of_getElem? (i := 106) (by decide +kernel)) rfl
set_option maxRecDepth 100000 in
theorem wf_X6_75 : Cond.fieldLink RX6 75 "TrayBox$Box" "share" "I" ∈ lwT := lwT_t (List.mem_of_getElem? (i := 108) (by decide +kernel)) rfl
set_option maxRecDepth 100000 in
theorem wf_X6_78 : Cond.fieldLink RX6 78 "TrayBox$Text" "length" "I" ∈ lwT := lwT_t (List.mem_of_getElem? (i := 162) (by decide +kernel)) rfl
set_option maxRecDepth 100000 in
theorem wf_X6_86 : Cond.fieldLink RX6 86 "TrayBox$Text" "result" "LTrayBox$Box;" ∈ lwT := lwT_t (List.mem_of_getElem? (i := 166) (by decide +kernel)) rfl
set_option maxRecDepth 100000 in
theorem wf_X6_92 : Cond.fieldLink RX6 92 "TrayBox$Text" "fault" "I" ∈ lwT := lwT_t (List.mem_of_getElem? (i := 164) (by decide +kernel)) rfl
set_option maxRecDepth 100000 in
theorem wf_X6_95 : Cond.fieldLink RX6 95 "TrayBox$Box" "trays" "I" ∈ lwT := lwT_t (List.mem_of_getElem? (i := 114) (by decide +kernel)) rfl
set_option maxRecDepth 100000 in
theorem wf_X6_98 : Cond.fieldLink RX6 98 "TrayBox$Box" "row" "[LTrayBox$Tray;" ∈ lwT := lwT_t (List.mem_of_getElem? (i := 119) (by decide +kernel)) rfl
set_option maxRecDepth 100000 in
theorem wf_X7_13 : Cond.fieldLink RX7 13 "TrayBoxModel" "tops" "[I" ∈ lwT := lwT_t (List.mem_of_getElem? (i := 669) (by decide +kernel)) rfl
set_option maxRecDepth 100000 in
theorem wf_X7_130 : Cond.fieldLink RX7 130 "TrayBoxModel" "typed" "I" ∈ lwT := lwT_t (List.mem_of_getElem? (i := 673) (by decide +kernel)) rfl
set_option maxRecDepth 100000 in
theorem wf_X7_133 : Cond.fieldLink RX7 133 "TrayBoxModel" "spot" "I" ∈ lwT := lwT_t (List.mem_of_getElem? (i := 676) (by decide +kernel)) rfl
set_option maxRecDepth 100000 in
theorem wf_X7_139 : Cond.fieldLink RX7 139 "TrayBoxModel" "fault" "I" ∈ lwT := lwT_t (List.mem_of_getElem? (i := 674) (by decide +kernel)) rfl
set_option maxRecDepth 100000 in
theorem wf_X7_141 : Cond.fieldLink RX7 141 "TrayBoxModel" "faultAt" "I" ∈ lwT := lwT_t (List.mem_of_getElem? (i := 675) (by decide +kernel)) rfl
set_option maxRecDepth 100000 in
theorem wf_X7_147 : Cond.fieldLink RX7 147 "TrayBoxModel" "number" "I" ∈ lwT := lwT_t (List.mem_of_getElem? (i := 677) (by decide +kernel)) rfl
set_option maxRecDepth 100000 in
theorem wf_X7_16 : Cond.fieldLink RX7 16 "TrayBoxModel" "text" "[I" ∈ lwT := lwT_t (List.mem_of_getElem? (i := 672) (by decide +kernel)) rfl
set_option maxRecDepth 100000 in
theorem wf_X7_178 : Cond.fieldLink RX7 178 "TrayBoxModel" "placesMany" "I" ∈ lwT := lwT_t (List.mem_of_getElem? (i := 682) (by decide +kernel)) rfl
set_option maxRecDepth 100000 in
theorem wf_X7_181 : Cond.fieldLink RX7 181 "TrayBoxModel" "bestTop" "I" ∈ lwT := lwT_t (List.mem_of_getElem? (i := 681) (by decide +kernel)) rfl
set_option maxRecDepth 100000 in
theorem wf_X7_184 : Cond.fieldLink RX7 184 "TrayBoxModel" "bestX" "I" ∈ lwT := lwT_t (List.mem_of_getElem? (i := 678) (by decide +kernel)) rfl
set_option maxRecDepth 100000 in
theorem wf_X7_187 : Cond.fieldLink RX7 187 "TrayBoxModel" "bestY" "I" ∈ lwT := lwT_t (List.mem_of_getElem? (i := 679) (by decide +kernel)) rfl
set_option maxRecDepth 100000 in
theorem wf_X7_19 : Cond.fieldLink RX7 19 "TrayBoxModel" "order" "[I" ∈ lwT := lwT_t (List.mem_of_getElem? (i := 683) (by decide +kernel)) rfl
set_option maxRecDepth 100000 in
theorem wf_X7_190 : Cond.fieldLink RX7 190 "TrayBoxModel" "bestWay" "I" ∈ lwT := lwT_t (List.mem_of_getElem? (i := 680) (by decide +kernel)) rfl
set_option maxRecDepth 100000 in
theorem wf_X7_22 : Cond.fieldLink RX7 22 "TrayBoxModel" "bestOrder" "[I" ∈ lwT := lwT_t (List.mem_of_getElem? (i := 684) (by decide +kernel)) rfl
set_option maxRecDepth 100000 in
theorem wf_X7_240 : Cond.fieldLink RX7 240 "TrayBoxModel" "hash" "J" ∈ lwT := lwT_t (List.mem_of_getElem? (i := 687) (by decide +kernel)) rfl
set_option maxRecDepth 100000 in
theorem wf_X7_25 : Cond.fieldLink RX7 25 "TrayBoxModel" "bestOnes" "[I" ∈ lwT := lwT_t (List.mem_of_getElem? (i := 685) (by decide +kernel)) rfl
set_option maxRecDepth 100000 in
theorem wf_X7_28 : Cond.fieldLink RX7 28 "TrayBoxModel" "lifted" "[I" ∈ lwT := lwT_t (List.mem_of_getElem? (i := 686) (by decide +kernel)) rfl
set_option maxRecDepth 100000 in
theorem wf_X7_31 : Cond.fieldLink RX7 31 "TrayBoxModel" "backMany" "I" ∈ lwT := lwT_t (List.mem_of_getElem? (i := 668) (by decide +kernel)) rfl
set_option maxRecDepth 100000 in
theorem wf_X7_7 : Cond.fieldLink RX7 7 "TrayBoxModel" "page" "[I" ∈ lwT := lwT_t (List.mem_of_getElem? (i := 667) (by decide +kernel)) rfl
set_option maxRecDepth 100000 in
theorem wf_X7_81 : Cond.fieldLink RX7 81 "TrayBoxModel" "floorThere" "I" ∈ lwT := lwT_t (List.mem_of_getElem? (i := 670) (by decide +kernel)) rfl
set_option maxRecDepth 100000 in
theorem wf_X7_84 : Cond.fieldLink RX7 84 "TrayBoxModel" "restsThere" "I" ∈ lwT := lwT_t (List.mem_of_getElem? (i := 671) (by decide +kernel)) rfl
set_option maxRecDepth 100000 in
theorem wi_X0_above : Cond.instanceMethod yX0_above ∈ lwT := lwT_t (List.mem_of_getElem? (i := 495) (by decide +kernel)) rfl
set_option maxRecDepth 100000 in
theorem wi_X0_air : Cond.instanceMethod yX0_air ∈ lwT := lwT_t (List.mem_of_getElem? (i := 577) (by decide +kernel)) rfl
set_option maxRecDepth 100000 in
theorem wi_X0_clear : Cond.instanceMethod yX0_clear ∈ lwT := lwT_t (List.mem_of_getElem? (i := 314) (by decide +kernel)) rfl
set_option maxRecDepth 100000 in
theorem wi_X0_copyFrom : Cond.instanceMethod yX0_copyFrom ∈ lwT := lwT_t (List.mem_of_getElem? (i := 302) (by decide +kernel)) rfl
set_option maxRecDepth 100000 in
theorem wi_X0_copyTrays : Cond.instanceMethod yX0_copyTrays ∈ lwT := lwT_t (List.mem_of_getElem? (i := 306) (by decide +kernel)) rfl
set_option maxRecDepth 100000 in
theorem wi_X0_encloses : Cond.instanceMethod yX0_encloses ∈ lwT := lwT_t (List.mem_of_getElem? (i := 413) (by decide +kernel)) rfl
set_option maxRecDepth 100000 in
theorem wi_X0_faultOf : Cond.instanceMethod yX0_faultOf ∈ lwT := lwT_t (List.mem_of_getElem? (i := 499) (by decide +kernel)) rfl
set_option maxRecDepth 100000 in
theorem wi_X0_faults : Cond.instanceMethod yX0_faults ∈ lwT := lwT_t (List.mem_of_getElem? (i := 568) (by decide +kernel)) rfl
set_option maxRecDepth 100000 in
theorem wi_X0_filledHeight : Cond.instanceMethod yX0_filledHeight ∈ lwT := lwT_t (List.mem_of_getElem? (i := 572) (by decide +kernel)) rfl
set_option maxRecDepth 100000 in
theorem wi_X0_freeTrays : Cond.instanceMethod yX0_freeTrays ∈ lwT := lwT_t (List.mem_of_getElem? (i := 639) (by decide +kernel)) rfl
set_option maxRecDepth 100000 in
theorem wi_X0_has : Cond.instanceMethod yX0_has ∈ lwT := lwT_t (List.mem_of_getElem? (i := 397) (by decide +kernel)) rfl
set_option maxRecDepth 100000 in
theorem wi_X0_highestFloor : Cond.instanceMethod yX0_highestFloor ∈ lwT := lwT_t (List.mem_of_getElem? (i := 437) (by decide +kernel)) rfl
set_option maxRecDepth 100000 in
theorem wi_X0_inside : Cond.instanceMethod yX0_inside ∈ lwT := lwT_t (List.mem_of_getElem? (i := 288) (by decide +kernel)) rfl
set_option maxRecDepth 100000 in
theorem wi_X0_isFree : Cond.instanceMethod yX0_isFree ∈ lwT := lwT_t (List.mem_of_getElem? (i := 466) (by decide +kernel)) rfl
set_option maxRecDepth 100000 in
theorem wi_X0_lateOnes : Cond.instanceMethod yX0_lateOnes ∈ lwT := lwT_t (List.mem_of_getElem? (i := 506) (by decide +kernel)) rfl
set_option maxRecDepth 100000 in
theorem wi_X0_lifts : Cond.instanceMethod yX0_lifts ∈ lwT := lwT_t (List.mem_of_getElem? (i := 647) (by decide +kernel)) rfl
set_option maxRecDepth 100000 in
theorem wi_X0_lyingOn : Cond.instanceMethod yX0_lyingOn ∈ lwT := lwT_t (List.mem_of_getElem? (i := 471) (by decide +kernel)) rfl
set_option maxRecDepth 100000 in
theorem wi_X0_playedLifts : Cond.instanceMethod yX0_playedLifts ∈ lwT := lwT_t (List.mem_of_getElem? (i := 618) (by decide +kernel)) rfl
set_option maxRecDepth 100000 in
theorem wi_X0_remove : Cond.instanceMethod yX0_remove ∈ lwT := lwT_t (List.mem_of_getElem? (i := 401) (by decide +kernel)) rfl
set_option maxRecDepth 100000 in
theorem wi_X0_uppermost : Cond.instanceMethod yX0_uppermost ∈ lwT := lwT_t (List.mem_of_getElem? (i := 513) (by decide +kernel)) rfl
set_option maxRecDepth 100000 in
theorem wi_X1_holds : Cond.instanceMethod yX1_holds ∈ lwT := lwT_t (List.mem_of_getElem? (i := 445) (by decide +kernel)) rfl
set_option maxRecDepth 100000 in
theorem wi_X1_keep : Cond.instanceMethod yX1_keep ∈ lwT := lwT_t (List.mem_of_getElem? (i := 532) (by decide +kernel)) rfl
set_option maxRecDepth 100000 in
theorem wi_X1_raise : Cond.instanceMethod yX1_raise ∈ lwT := lwT_t (List.mem_of_getElem? (i := 429) (by decide +kernel)) rfl
set_option maxRecDepth 100000 in
theorem wi_X1_search : Cond.instanceMethod yX1_search ∈ lwT := lwT_t (List.mem_of_getElem? (i := 525) (by decide +kernel)) rfl
set_option maxRecDepth 100000 in
theorem wi_X1_survey : Cond.instanceMethod yX1_survey ∈ lwT := lwT_t (List.mem_of_getElem? (i := 425) (by decide +kernel)) rfl
set_option maxRecDepth 100000 in
theorem wi_X2_record : Cond.instanceMethod yX2_record ∈ lwT := lwT_t (List.mem_of_getElem? (i := 298) (by decide +kernel)) rfl
set_option maxRecDepth 100000 in
theorem wi_X2_restore : Cond.instanceMethod yX2_restore ∈ lwT := lwT_t (List.mem_of_getElem? (i := 631) (by decide +kernel)) rfl
set_option maxRecDepth 100000 in
theorem wi_X3_isTriedBetter : Cond.instanceMethod yX3_isTriedBetter ∈ lwT := lwT_t (List.mem_of_getElem? (i := 596) (by decide +kernel)) rfl
set_option maxRecDepth 100000 in
theorem wi_X3_letDownFrom : Cond.instanceMethod yX3_letDownFrom ∈ lwT := lwT_t (List.mem_of_getElem? (i := 554) (by decide +kernel)) rfl
set_option maxRecDepth 100000 in
theorem wi_X3_measure : Cond.instanceMethod yX3_measure ∈ lwT := lwT_t (List.mem_of_getElem? (i := 563) (by decide +kernel)) rfl
set_option maxRecDepth 100000 in
theorem wi_X3_packByBest : Cond.instanceMethod yX3_packByBest ∈ lwT := lwT_t (List.mem_of_getElem? (i := 591) (by decide +kernel)) rfl
set_option maxRecDepth 100000 in
theorem wi_X3_packUsually : Cond.instanceMethod yX3_packUsually ∈ lwT := lwT_t (List.mem_of_getElem? (i := 544) (by decide +kernel)) rfl
set_option maxRecDepth 100000 in
theorem wi_X3_stepToNextOrder : Cond.instanceMethod yX3_stepToNextOrder ∈ lwT := lwT_t (List.mem_of_getElem? (i := 603) (by decide +kernel)) rfl
set_option maxRecDepth 100000 in
theorem wi_X3_swap : Cond.instanceMethod yX3_swap ∈ lwT := lwT_t (List.mem_of_getElem? (i := 607) (by decide +kernel)) rfl
set_option maxRecDepth 100000 in
theorem wi_X4_append : Cond.instanceMethod yX4_append ∈ lwT := lwT_t (List.mem_of_getElem? (i := 330) (by decide +kernel)) rfl
set_option maxRecDepth 100000 in
theorem wi_X4_fail : Cond.instanceMethod yX4_fail ∈ lwT := lwT_t (List.mem_of_getElem? (i := 358) (by decide +kernel)) rfl
set_option maxRecDepth 100000 in
theorem wi_X4_next : Cond.instanceMethod yX4_next ∈ lwT := lwT_t (List.mem_of_getElem? (i := 351) (by decide +kernel)) rfl
set_option maxRecDepth 100000 in
theorem wi_X4_read : Cond.instanceMethod yX4_read ∈ lwT := lwT_t (List.mem_of_getElem? (i := 342) (by decide +kernel)) rfl
set_option maxRecDepth 100000 in
theorem wi_X4_readLid : Cond.instanceMethod yX4_readLid ∈ lwT := lwT_t (List.mem_of_getElem? (i := 376) (by decide +kernel)) rfl
set_option maxRecDepth 100000 in
theorem wi_X4_readNumber : Cond.instanceMethod yX4_readNumber ∈ lwT := lwT_t (List.mem_of_getElem? (i := 362) (by decide +kernel)) rfl
set_option maxRecDepth 100000 in
theorem wi_X4_readSign : Cond.instanceMethod yX4_readSign ∈ lwT := lwT_t (List.mem_of_getElem? (i := 367) (by decide +kernel)) rfl
set_option maxRecDepth 100000 in
theorem wi_X4_readTray : Cond.instanceMethod yX4_readTray ∈ lwT := lwT_t (List.mem_of_getElem? (i := 347) (by decide +kernel)) rfl
set_option maxRecDepth 100000 in
theorem wi_X4_readTurn : Cond.instanceMethod yX4_readTurn ∈ lwT := lwT_t (List.mem_of_getElem? (i := 380) (by decide +kernel)) rfl
set_option maxRecDepth 100000 in
theorem wi_X5_alongX : Cond.instanceMethod yX5_alongX ∈ lwT := lwT_t (List.mem_of_getElem? (i := 417) (by decide +kernel)) rfl
set_option maxRecDepth 100000 in
theorem wi_X5_alongY : Cond.instanceMethod yX5_alongY ∈ lwT := lwT_t (List.mem_of_getElem? (i := 421) (by decide +kernel)) rfl
set_option maxRecDepth 100000 in
theorem wi_X5_area : Cond.instanceMethod yX5_area ∈ lwT := lwT_t (List.mem_of_getElem? (i := 451) (by decide +kernel)) rfl
set_option maxRecDepth 100000 in
theorem wi_X5_become : Cond.instanceMethod yX5_become ∈ lwT := lwT_t (List.mem_of_getElem? (i := 370) (by decide +kernel)) rfl
set_option maxRecDepth 100000 in
theorem wi_X5_copyFrom : Cond.instanceMethod yX5_copyFrom ∈ lwT := lwT_t (List.mem_of_getElem? (i := 310) (by decide +kernel)) rfl
set_option maxRecDepth 100000 in
theorem wi_X5_covers : Cond.instanceMethod yX5_covers ∈ lwT := lwT_t (List.mem_of_getElem? (i := 517) (by decide +kernel)) rfl
set_option maxRecDepth 100000 in
theorem wi_X5_leave : Cond.instanceMethod yX5_leave ∈ lwT := lwT_t (List.mem_of_getElem? (i := 318) (by decide +kernel)) rfl
set_option maxRecDepth 100000 in
theorem wi_X5_lie : Cond.instanceMethod yX5_lie ∈ lwT := lwT_t (List.mem_of_getElem? (i := 455) (by decide +kernel)) rfl
set_option maxRecDepth 100000 in
theorem wi_X5_liesOn : Cond.instanceMethod yX5_liesOn ∈ lwT := lwT_t (List.mem_of_getElem? (i := 474) (by decide +kernel)) rfl
set_option maxRecDepth 100000 in
theorem wi_X5_property : Cond.instanceMethod yX5_property ∈ lwT := lwT_t (List.mem_of_getElem? (i := 487) (by decide +kernel)) rfl
set_option maxRecDepth 100000 in
theorem wi_X5_tall : Cond.instanceMethod yX5_tall ∈ lwT := lwT_t (List.mem_of_getElem? (i := 441) (by decide +kernel)) rfl
set_option maxRecDepth 100000 in
theorem wi_X6_count : Cond.instanceMethod yX6_count ∈ lwT := lwT_t (List.mem_of_getElem? (i := 635) (by decide +kernel)) rfl
set_option maxRecDepth 100000 in
theorem wi_X6_liftsTo : Cond.instanceMethod yX6_liftsTo ∈ lwT := lwT_t (List.mem_of_getElem? (i := 623) (by decide +kernel)) rfl
set_option maxRecDepth 100000 in
theorem wi_X6_place : Cond.instanceMethod yX6_place ∈ lwT := lwT_t (List.mem_of_getElem? (i := 521) (by decide +kernel)) rfl
set_option maxRecDepth 100000 in
theorem wi_X6_placedProperty : Cond.instanceMethod yX6_placedProperty ∈ lwT := lwT_t (List.mem_of_getElem? (i := 492) (by decide +kernel)) rfl
set_option maxRecDepth 100000 in
theorem wi_X6_seen : Cond.instanceMethod yX6_seen ∈ lwT := lwT_t (List.mem_of_getElem? (i := 509) (by decide +kernel)) rfl
set_option maxRecDepth 100000 in
theorem wi_X6_takeOverPacked : Cond.instanceMethod yX6_takeOverPacked ∈ lwT := lwT_t (List.mem_of_getElem? (i := 584) (by decide +kernel)) rfl
set_option maxRecDepth 100000 in
theorem wi_X6_tray : Cond.instanceMethod yX6_tray ∈ lwT := lwT_t (List.mem_of_getElem? (i := 483) (by decide +kernel)) rfl
set_option maxRecDepth 100000 in
theorem wi_X7_above : Cond.instanceMethod yX7_above ∈ lwT := lwT_t (List.mem_of_getElem? (i := 896) (by decide +kernel)) rfl
set_option maxRecDepth 100000 in
theorem wi_X7_air : Cond.instanceMethod yX7_air ∈ lwT := lwT_t (List.mem_of_getElem? (i := 972) (by decide +kernel)) rfl
set_option maxRecDepth 100000 in
theorem wi_X7_along : Cond.instanceMethod yX7_along ∈ lwT := lwT_t (List.mem_of_getElem? (i := 760) (by decide +kernel)) rfl
set_option maxRecDepth 100000 in
theorem wi_X7_boxHeight : Cond.instanceMethod yX7_boxHeight ∈ lwT := lwT_t (List.mem_of_getElem? (i := 968) (by decide +kernel)) rfl
set_option maxRecDepth 100000 in
theorem wi_X7_can : Cond.instanceMethod yX7_can ∈ lwT := lwT_t (List.mem_of_getElem? (i := 792) (by decide +kernel)) rfl
set_option maxRecDepth 100000 in
theorem wi_X7_comes : Cond.instanceMethod yX7_comes ∈ lwT := lwT_t (List.mem_of_getElem? (i := 804) (by decide +kernel)) rfl
set_option maxRecDepth 100000 in
theorem wi_X7_comesTo : Cond.instanceMethod yX7_comesTo ∈ lwT := lwT_t (List.mem_of_getElem? (i := 960) (by decide +kernel)) rfl
set_option maxRecDepth 100000 in
theorem wi_X7_copies : Cond.instanceMethod yX7_copies ∈ lwT := lwT_t (List.mem_of_getElem? (i := 737) (by decide +kernel)) rfl
set_option maxRecDepth 100000 in
theorem wi_X7_count : Cond.instanceMethod yX7_count ∈ lwT := lwT_t (List.mem_of_getElem? (i := 1015) (by decide +kernel)) rfl
set_option maxRecDepth 100000 in
theorem wi_X7_covers : Cond.instanceMethod yX7_covers ∈ lwT := lwT_t (List.mem_of_getElem? (i := 776) (by decide +kernel)) rfl
set_option maxRecDepth 100000 in
theorem wi_X7_empties : Cond.instanceMethod yX7_empties ∈ lwT := lwT_t (List.mem_of_getElem? (i := 872) (by decide +kernel)) rfl
set_option maxRecDepth 100000 in
theorem wi_X7_fails : Cond.instanceMethod yX7_fails ∈ lwT := lwT_t (List.mem_of_getElem? (i := 836) (by decide +kernel)) rfl
set_option maxRecDepth 100000 in
theorem wi_X7_fault : Cond.instanceMethod yX7_fault ∈ lwT := lwT_t (List.mem_of_getElem? (i := 920) (by decide +kernel)) rfl
set_option maxRecDepth 100000 in
theorem wi_X7_faults : Cond.instanceMethod yX7_faults ∈ lwT := lwT_t (List.mem_of_getElem? (i := 964) (by decide +kernel)) rfl
set_option maxRecDepth 100000 in
theorem wi_X7_finds : Cond.instanceMethod yX7_finds ∈ lwT := lwT_t (List.mem_of_getElem? (i := 936) (by decide +kernel)) rfl
set_option maxRecDepth 100000 in
theorem wi_X7_frees : Cond.instanceMethod yX7_frees ∈ lwT := lwT_t (List.mem_of_getElem? (i := 1020) (by decide +kernel)) rfl
set_option maxRecDepth 100000 in
theorem wi_X7_gets : Cond.instanceMethod yX7_gets ∈ lwT := lwT_t (List.mem_of_getElem? (i := 1008) (by decide +kernel)) rfl
set_option maxRecDepth 100000 in
theorem wi_X7_here : Cond.instanceMethod yX7_here ∈ lwT := lwT_t (List.mem_of_getElem? (i := 832) (by decide +kernel)) rfl
set_option maxRecDepth 100000 in
theorem wi_X7_high : Cond.instanceMethod yX7_high ∈ lwT := lwT_t (List.mem_of_getElem? (i := 788) (by decide +kernel)) rfl
set_option maxRecDepth 100000 in
theorem wi_X7_ifPacked : Cond.instanceMethod yX7_ifPacked ∈ lwT := lwT_t (List.mem_of_getElem? (i := 995) (by decide +kernel)) rfl
set_option maxRecDepth 100000 in
theorem wi_X7_inBox : Cond.instanceMethod yX7_inBox ∈ lwT := lwT_t (List.mem_of_getElem? (i := 868) (by decide +kernel)) rfl
set_option maxRecDepth 100000 in
theorem wi_X7_isAhead : Cond.instanceMethod yX7_isAhead ∈ lwT := lwT_t (List.mem_of_getElem? (i := 952) (by decide +kernel)) rfl
set_option maxRecDepth 100000 in
theorem wi_X7_isBetter : Cond.instanceMethod yX7_isBetter ∈ lwT := lwT_t (List.mem_of_getElem? (i := 984) (by decide +kernel)) rfl
set_option maxRecDepth 100000 in
theorem wi_X7_isDigit : Cond.instanceMethod yX7_isDigit ∈ lwT := lwT_t (List.mem_of_getElem? (i := 828) (by decide +kernel)) rfl
set_option maxRecDepth 100000 in
theorem wi_X7_isIn : Cond.instanceMethod yX7_isIn ∈ lwT := lwT_t (List.mem_of_getElem? (i := 768) (by decide +kernel)) rfl
set_option maxRecDepth 100000 in
theorem wi_X7_isInside : Cond.instanceMethod yX7_isInside ∈ lwT := lwT_t (List.mem_of_getElem? (i := 756) (by decide +kernel)) rfl
set_option maxRecDepth 100000 in
theorem wi_X7_isTray : Cond.instanceMethod yX7_isTray ∈ lwT := lwT_t (List.mem_of_getElem? (i := 745) (by decide +kernel)) rfl
set_option maxRecDepth 100000 in
theorem wi_X7_laysTops : Cond.instanceMethod yX7_laysTops ∈ lwT := lwT_t (List.mem_of_getElem? (i := 772) (by decide +kernel)) rfl
set_option maxRecDepth 100000 in
theorem wi_X7_leaves : Cond.instanceMethod yX7_leaves ∈ lwT := lwT_t (List.mem_of_getElem? (i := 840) (by decide +kernel)) rfl
set_option maxRecDepth 100000 in
theorem wi_X7_liesOn : Cond.instanceMethod yX7_liesOn ∈ lwT := lwT_t (List.mem_of_getElem? (i := 900) (by decide +kernel)) rfl
set_option maxRecDepth 100000 in
theorem wi_X7_lift : Cond.instanceMethod yX7_lift ∈ lwT := lwT_t (List.mem_of_getElem? (i := 916) (by decide +kernel)) rfl
set_option maxRecDepth 100000 in
theorem wi_X7_lifts : Cond.instanceMethod yX7_lifts ∈ lwT := lwT_t (List.mem_of_getElem? (i := 1024) (by decide +kernel)) rfl
set_option maxRecDepth 100000 in
theorem wi_X7_liftsTo : Cond.instanceMethod yX7_liftsTo ∈ lwT := lwT_t (List.mem_of_getElem? (i := 1011) (by decide +kernel)) rfl
set_option maxRecDepth 100000 in
theorem wi_X7_looksAt : Cond.instanceMethod yX7_looksAt ∈ lwT := lwT_t (List.mem_of_getElem? (i := 796) (by decide +kernel)) rfl
set_option maxRecDepth 100000 in
theorem wi_X7_meet : Cond.instanceMethod yX7_meet ∈ lwT := lwT_t (List.mem_of_getElem? (i := 904) (by decide +kernel)) rfl
set_option maxRecDepth 100000 in
theorem wi_X7_mixes : Cond.instanceMethod yX7_mixes ∈ lwT := lwT_t (List.mem_of_getElem? (i := 1034) (by decide +kernel)) rfl
set_option maxRecDepth 100000 in
theorem wi_X7_of : Cond.instanceMethod yX7_of ∈ lwT := lwT_t (List.mem_of_getElem? (i := 764) (by decide +kernel)) rfl
set_option maxRecDepth 100000 in
theorem wi_X7_ordersBest : Cond.instanceMethod yX7_ordersBest ∈ lwT := lwT_t (List.mem_of_getElem? (i := 980) (by decide +kernel)) rfl
set_option maxRecDepth 100000 in
theorem wi_X7_ordersNext : Cond.instanceMethod yX7_ordersNext ∈ lwT := lwT_t (List.mem_of_getElem? (i := 988) (by decide +kernel)) rfl
set_option maxRecDepth 100000 in
theorem wi_X7_ordersUsually : Cond.instanceMethod yX7_ordersUsually ∈ lwT := lwT_t (List.mem_of_getElem? (i := 948) (by decide +kernel)) rfl
set_option maxRecDepth 100000 in
theorem wi_X7_packs : Cond.instanceMethod yX7_packs ∈ lwT := lwT_t (List.mem_of_getElem? (i := 956) (by decide +kernel)) rfl
set_option maxRecDepth 100000 in
theorem wi_X7_place : Cond.instanceMethod yX7_place ∈ lwT := lwT_t (List.mem_of_getElem? (i := 931) (by decide +kernel)) rfl
set_option maxRecDepth 100000 in
theorem wi_X7_plays : Cond.instanceMethod yX7_plays ∈ lwT := lwT_t (List.mem_of_getElem? (i := 1004) (by decide +kernel)) rfl
set_option maxRecDepth 100000 in
theorem wi_X7_readsInto : Cond.instanceMethod yX7_readsInto ∈ lwT := lwT_t (List.mem_of_getElem? (i := 844) (by decide +kernel)) rfl
set_option maxRecDepth 100000 in
theorem wi_X7_readsNumber : Cond.instanceMethod yX7_readsNumber ∈ lwT := lwT_t (List.mem_of_getElem? (i := 848) (by decide +kernel)) rfl
set_option maxRecDepth 100000 in
theorem wi_X7_readsTray : Cond.instanceMethod yX7_readsTray ∈ lwT := lwT_t (List.mem_of_getElem? (i := 824) (by decide +kernel)) rfl
set_option maxRecDepth 100000 in
theorem wi_X7_records : Cond.instanceMethod yX7_records ∈ lwT := lwT_t (List.mem_of_getElem? (i := 800) (by decide +kernel)) rfl
set_option maxRecDepth 100000 in
theorem wi_X7_recordsKept : Cond.instanceMethod yX7_recordsKept ∈ lwT := lwT_t (List.mem_of_getElem? (i := 856) (by decide +kernel)) rfl
set_option maxRecDepth 100000 in
theorem wi_X7_rests : Cond.instanceMethod yX7_rests ∈ lwT := lwT_t (List.mem_of_getElem? (i := 924) (by decide +kernel)) rfl
set_option maxRecDepth 100000 in
theorem wi_X7_seen : Cond.instanceMethod yX7_seen ∈ lwT := lwT_t (List.mem_of_getElem? (i := 927) (by decide +kernel)) rfl
set_option maxRecDepth 100000 in
theorem wi_X7_sets : Cond.instanceMethod yX7_sets ∈ lwT := lwT_t (List.mem_of_getElem? (i := 808) (by decide +kernel)) rfl
set_option maxRecDepth 100000 in
theorem wi_X7_spans : Cond.instanceMethod yX7_spans ∈ lwT := lwT_t (List.mem_of_getElem? (i := 780) (by decide +kernel)) rfl
set_option maxRecDepth 100000 in
theorem wi_X7_swaps : Cond.instanceMethod yX7_swaps ∈ lwT := lwT_t (List.mem_of_getElem? (i := 992) (by decide +kernel)) rfl
set_option maxRecDepth 100000 in
theorem wi_X7_takes : Cond.instanceMethod yX7_takes ∈ lwT := lwT_t (List.mem_of_getElem? (i := 852) (by decide +kernel)) rfl
set_option maxRecDepth 100000 in
theorem wi_X7_top : Cond.instanceMethod yX7_top ∈ lwT := lwT_t (List.mem_of_getElem? (i := 784) (by decide +kernel)) rfl
set_option maxRecDepth 100000 in
theorem wi_X7_tray : Cond.instanceMethod yX7_tray ∈ lwT := lwT_t (List.mem_of_getElem? (i := 911) (by decide +kernel)) rfl
set_option maxRecDepth 100000 in
theorem wi_X7_trays : Cond.instanceMethod yX7_trays ∈ lwT := lwT_t (List.mem_of_getElem? (i := 749) (by decide +kernel)) rfl
set_option maxRecDepth 100000 in
theorem wk_J6_265 : Cond.constant RJ6 265 (1431655765) ∈ lwT := lwT_t (List.mem_of_getElem? (i := 294) (by decide +kernel)) rfl
set_option maxRecDepth 100000 in
theorem wk_J6_266 : Cond.constant RJ6 266 (858993459) ∈ lwT := lwT_t (List.mem_of_getElem? (i := 295) (by decide +kernel)) rfl
set_option maxRecDepth 100000 in
theorem wk_J6_267 : Cond.constant RJ6 267 (252645135) ∈ lwT := lwT_t (List.mem_of_getElem? (i := 296) (by decide +kernel)) rfl
set_option maxRecDepth 100000 in
theorem wk_X6_232 : Cond.constantLong RX6 232 (43160) ∈ lwT := lwT_t (List.mem_of_getElem? (i := 654) (by decide +kernel)) rfl
set_option maxRecDepth 100000 in
theorem wk_X6_234 : Cond.constantLong RX6 234 (31) ∈ lwT := lwT_t (List.mem_of_getElem? (i := 655) (by decide +kernel)) rfl
set_option maxRecDepth 100000 in
theorem wk_X7_238 : Cond.constantLong RX7 238 (31) ∈ lwT := lwT_t (List.mem_of_getElem? (i := 1036) (by decide +kernel)) rfl
set_option maxRecDepth 100000 in
theorem wk_X7_244 : Cond.constantLong RX7 244 (43160) ∈ lwT := lwT_t (List.mem_of_getElem? (i := 1030) (by decide +kernel)) rfl
set_option maxRecDepth 100000 in
theorem wm_X0_101 : Cond.methodLink RX0 101 yX0_filledHeight ∈ lwT := lwT_t (List.mem_of_getElem? (i := 580) (by decide +kernel)) rfl
set_option maxRecDepth 100000 in
theorem wm_X0_104 : Cond.methodLink RX0 104 yX5_area ∈ lwT := lwT_t (List.mem_of_getElem? (i := 581) (by decide +kernel)) rfl
set_option maxRecDepth 100000 in
theorem wm_X0_31 : Cond.methodLink RX0 31 yX0_copyTrays ∈ lwT := lwT_t (List.mem_of_getElem? (i := 305) (by decide +kernel)) rfl
set_option maxRecDepth 100000 in
theorem wm_X0_38 : Cond.methodLink RX0 38 yX5_copyFrom ∈ lwT := lwT_t (List.mem_of_getElem? (i := 309) (by decide +kernel)) rfl
set_option maxRecDepth 100000 in
theorem wm_X0_42 : Cond.methodLink RX0 42 yX5_leave ∈ lwT := lwT_t (List.mem_of_getElem? (i := 317) (by decide +kernel)) rfl
set_option maxRecDepth 100000 in
theorem wm_X0_45 : Cond.methodLink RX0 45 yX5_alongX ∈ lwT := lwT_t (List.mem_of_getElem? (i := 416) (by decide +kernel)) rfl
set_option maxRecDepth 100000 in
theorem wm_X0_49 : Cond.methodLink RX0 49 yX5_alongY ∈ lwT := lwT_t (List.mem_of_getElem? (i := 420) (by decide +kernel)) rfl
set_option maxRecDepth 100000 in
theorem wm_X0_52 : Cond.methodLink RX0 52 yX5_tall ∈ lwT := lwT_t (List.mem_of_getElem? (i := 440) (by decide +kernel)) rfl
set_option maxRecDepth 100000 in
theorem wm_X0_60 : Cond.methodLink RX0 60 yX5_covers ∈ lwT := lwT_t (List.mem_of_getElem? (i := 516) (by decide +kernel)) rfl
set_option maxRecDepth 100000 in
theorem wm_X0_67 : Cond.methodLink RX0 67 yX0_lyingOn ∈ lwT := lwT_t (List.mem_of_getElem? (i := 469) (by decide +kernel)) rfl
set_option maxRecDepth 100000 in
theorem wm_X0_71 : Cond.methodLink RX0 71 yX5_liesOn ∈ lwT := lwT_t (List.mem_of_getElem? (i := 473) (by decide +kernel)) rfl
set_option maxRecDepth 100000 in
theorem wm_X0_75 : Cond.methodLink RX0 75 yX0_inside ∈ lwT := lwT_t (List.mem_of_getElem? (i := 502) (by decide +kernel)) rfl
set_option maxRecDepth 100000 in
theorem wm_X0_77 : Cond.methodLink RX0 77 yX0_above ∈ lwT := lwT_t (List.mem_of_getElem? (i := 503) (by decide +kernel)) rfl
set_option maxRecDepth 100000 in
theorem wm_X0_84 : Cond.methodLink RX0 84 yX0_lateOnes ∈ lwT := lwT_t (List.mem_of_getElem? (i := 504) (by decide +kernel)) rfl
set_option maxRecDepth 100000 in
theorem wm_X0_87 : Cond.methodLink RX0 87 yJ6_bitCount_0f7a4 ∈ lwT := lwT_t (List.mem_of_getElem? (i := 621) (by decide +kernel)) rfl
set_option maxRecDepth 100000 in
theorem wm_X0_92 : Cond.methodLink RX0 92 yX0_isFree ∈ lwT := lwT_t (List.mem_of_getElem? (i := 642) (by decide +kernel)) rfl
set_option maxRecDepth 100000 in
theorem wm_X0_96 : Cond.methodLink RX0 96 yJ9_max_7cf53 ∈ lwT := lwT_t (List.mem_of_getElem? (i := 575) (by decide +kernel)) rfl
set_option maxRecDepth 100000 in
theorem wm_X1_102 : Cond.methodLink RX1 102 yX1_keep ∈ lwT := lwT_t (List.mem_of_getElem? (i := 530) (by decide +kernel)) rfl
set_option maxRecDepth 100000 in
theorem wm_X1_25 : Cond.methodLink RX1 25 yX1_raise ∈ lwT := lwT_t (List.mem_of_getElem? (i := 428) (by decide +kernel)) rfl
set_option maxRecDepth 100000 in
theorem wm_X1_44 : Cond.methodLink RX1 44 yX0_encloses ∈ lwT := lwT_t (List.mem_of_getElem? (i := 432) (by decide +kernel)) rfl
set_option maxRecDepth 100000 in
theorem wm_X1_57 : Cond.methodLink RX1 57 yJ9_max_7cf53 ∈ lwT := lwT_t (List.mem_of_getElem? (i := 433) (by decide +kernel)) rfl
set_option maxRecDepth 100000 in
theorem wm_X1_69 : Cond.methodLink RX1 69 yX5_alongX ∈ lwT := lwT_t (List.mem_of_getElem? (i := 448) (by decide +kernel)) rfl
set_option maxRecDepth 100000 in
theorem wm_X1_73 : Cond.methodLink RX1 73 yX5_alongY ∈ lwT := lwT_t (List.mem_of_getElem? (i := 449) (by decide +kernel)) rfl
set_option maxRecDepth 100000 in
theorem wm_X1_79 : Cond.methodLink RX1 79 yX5_area ∈ lwT := lwT_t (List.mem_of_getElem? (i := 450) (by decide +kernel)) rfl
set_option maxRecDepth 100000 in
theorem wm_X1_86 : Cond.methodLink RX1 86 yX0_highestFloor ∈ lwT := lwT_t (List.mem_of_getElem? (i := 528) (by decide +kernel)) rfl
set_option maxRecDepth 100000 in
theorem wm_X1_98 : Cond.methodLink RX1 98 yX1_holds ∈ lwT := lwT_t (List.mem_of_getElem? (i := 529) (by decide +kernel)) rfl
set_option maxRecDepth 100000 in
theorem wm_X2_25 : Cond.methodLink RX2 25 yX0_copyFrom ∈ lwT := lwT_t (List.mem_of_getElem? (i := 301) (by decide +kernel)) rfl
set_option maxRecDepth 100000 in
theorem wm_X3_113 : Cond.methodLink RX3 113 yX5_lie ∈ lwT := lwT_t (List.mem_of_getElem? (i := 559) (by decide +kernel)) rfl
set_option maxRecDepth 100000 in
theorem wm_X3_117 : Cond.methodLink RX3 117 yX1_raise ∈ lwT := lwT_t (List.mem_of_getElem? (i := 560) (by decide +kernel)) rfl
set_option maxRecDepth 100000 in
theorem wm_X3_121 : Cond.methodLink RX3 121 yX0_inside ∈ lwT := lwT_t (List.mem_of_getElem? (i := 565) (by decide +kernel)) rfl
set_option maxRecDepth 100000 in
theorem wm_X3_124 : Cond.methodLink RX3 124 yJ6_bitCount_0f7a4 ∈ lwT := lwT_t (List.mem_of_getElem? (i := 566) (by decide +kernel)) rfl
set_option maxRecDepth 100000 in
theorem wm_X3_130 : Cond.methodLink RX3 130 yX0_faults ∈ lwT := lwT_t (List.mem_of_getElem? (i := 567) (by decide +kernel)) rfl
set_option maxRecDepth 100000 in
theorem wm_X3_133 : Cond.methodLink RX3 133 yX0_filledHeight ∈ lwT := lwT_t (List.mem_of_getElem? (i := 571) (by decide +kernel)) rfl
set_option maxRecDepth 100000 in
theorem wm_X3_136 : Cond.methodLink RX3 136 yX0_air ∈ lwT := lwT_t (List.mem_of_getElem? (i := 576) (by decide +kernel)) rfl
set_option maxRecDepth 100000 in
theorem wm_X3_139 : Cond.methodLink RX3 139 yX3_swap ∈ lwT := lwT_t (List.mem_of_getElem? (i := 605) (by decide +kernel)) rfl
set_option maxRecDepth 100000 in
theorem wm_X3_38 : Cond.methodLink RX3 38 yX0_copyFrom ∈ lwT := lwT_t (List.mem_of_getElem? (i := 547) (by decide +kernel)) rfl
set_option maxRecDepth 100000 in
theorem wm_X3_50 : Cond.methodLink RX3 50 yX3_isBefore ∈ lwT := lwT_t (List.mem_of_getElem? (i := 548) (by decide +kernel)) rfl
set_option maxRecDepth 100000 in
theorem wm_X3_54 : Cond.methodLink RX3 54 yX3_letDownFrom ∈ lwT := lwT_t (List.mem_of_getElem? (i := 552) (by decide +kernel)) rfl
set_option maxRecDepth 100000 in
theorem wm_X3_58 : Cond.methodLink RX3 58 yX3_measure ∈ lwT := lwT_t (List.mem_of_getElem? (i := 561) (by decide +kernel)) rfl
set_option maxRecDepth 100000 in
theorem wm_X3_67 : Cond.methodLink RX3 67 yX5_area ∈ lwT := lwT_t (List.mem_of_getElem? (i := 551) (by decide +kernel)) rfl
set_option maxRecDepth 100000 in
theorem wm_X3_71 : Cond.methodLink RX3 71 yX3_isTriedBetter ∈ lwT := lwT_t (List.mem_of_getElem? (i := 594) (by decide +kernel)) rfl
set_option maxRecDepth 100000 in
theorem wm_X3_75 : Cond.methodLink RX3 75 arraycopyName ∈ lwT := lwT_t (List.mem_of_getElem? (i := 598) (by decide +kernel)) rfl
set_option maxRecDepth 100000 in
theorem wm_X3_81 : Cond.methodLink RX3 81 yX3_stepToNextOrder ∈ lwT := lwT_t (List.mem_of_getElem? (i := 601) (by decide +kernel)) rfl
set_option maxRecDepth 100000 in
theorem wm_X3_84 : Cond.methodLink RX3 84 yX5_leave ∈ lwT := lwT_t (List.mem_of_getElem? (i := 556) (by decide +kernel)) rfl
set_option maxRecDepth 100000 in
theorem wm_X3_87 : Cond.methodLink RX3 87 yX1_survey ∈ lwT := lwT_t (List.mem_of_getElem? (i := 557) (by decide +kernel)) rfl
set_option maxRecDepth 100000 in
theorem wm_X3_90 : Cond.methodLink RX3 90 yX1_search ∈ lwT := lwT_t (List.mem_of_getElem? (i := 558) (by decide +kernel)) rfl
set_option maxRecDepth 100000 in
theorem wm_X4_35 : Cond.methodLink RX4 35 yX4_readTray ∈ lwT := lwT_t (List.mem_of_getElem? (i := 345) (by decide +kernel)) rfl
set_option maxRecDepth 100000 in
theorem wm_X4_39 : Cond.methodLink RX4 39 yX4_next ∈ lwT := lwT_t (List.mem_of_getElem? (i := 349) (by decide +kernel)) rfl
set_option maxRecDepth 100000 in
theorem wm_X4_43 : Cond.methodLink RX4 43 yX4_isDigit ∈ lwT := lwT_t (List.mem_of_getElem? (i := 353) (by decide +kernel)) rfl
set_option maxRecDepth 100000 in
theorem wm_X4_47 : Cond.methodLink RX4 47 yX4_fail ∈ lwT := lwT_t (List.mem_of_getElem? (i := 356) (by decide +kernel)) rfl
set_option maxRecDepth 100000 in
theorem wm_X4_51 : Cond.methodLink RX4 51 yX4_readNumber ∈ lwT := lwT_t (List.mem_of_getElem? (i := 360) (by decide +kernel)) rfl
set_option maxRecDepth 100000 in
theorem wm_X4_58 : Cond.methodLink RX4 58 yX4_readSign ∈ lwT := lwT_t (List.mem_of_getElem? (i := 365) (by decide +kernel)) rfl
set_option maxRecDepth 100000 in
theorem wm_X4_65 : Cond.methodLink RX4 65 yX5_become ∈ lwT := lwT_t (List.mem_of_getElem? (i := 369) (by decide +kernel)) rfl
set_option maxRecDepth 100000 in
theorem wm_X4_71 : Cond.methodLink RX4 71 yX4_readLid ∈ lwT := lwT_t (List.mem_of_getElem? (i := 374) (by decide +kernel)) rfl
set_option maxRecDepth 100000 in
theorem wm_X4_75 : Cond.methodLink RX4 75 yX4_readTurn ∈ lwT := lwT_t (List.mem_of_getElem? (i := 378) (by decide +kernel)) rfl
set_option maxRecDepth 100000 in
theorem wm_X5_25 : Cond.methodLink RX5 25 yX5_leave ∈ lwT := lwT_t (List.mem_of_getElem? (i := 373) (by decide +kernel)) rfl
set_option maxRecDepth 100000 in
theorem wm_X5_56 : Cond.methodLink RX5 56 yX5_alongX ∈ lwT := lwT_t (List.mem_of_getElem? (i := 458) (by decide +kernel)) rfl
set_option maxRecDepth 100000 in
theorem wm_X5_60 : Cond.methodLink RX5 60 yX5_alongY ∈ lwT := lwT_t (List.mem_of_getElem? (i := 459) (by decide +kernel)) rfl
set_option maxRecDepth 100000 in
theorem wm_X5_63 : Cond.methodLink RX5 63 yX5_tall ∈ lwT := lwT_t (List.mem_of_getElem? (i := 460) (by decide +kernel)) rfl
set_option maxRecDepth 100000 in
theorem wm_X6_102 : Cond.methodLink RX6 102 yX5_become ∈ lwT := lwT_t (List.mem_of_getElem? (i := 391) (by decide +kernel)) rfl
set_option maxRecDepth 100000 in
theorem wm_X6_108 : Cond.methodLink RX6 108 yX0_has ∈ lwT := lwT_t (List.mem_of_getElem? (i := 396) (by decide +kernel)) rfl
set_option maxRecDepth 100000 in
theorem wm_X6_115 : Cond.methodLink RX6 115 yX0_remove ∈ lwT := lwT_t (List.mem_of_getElem? (i := 400) (by decide +kernel)) rfl
set_option maxRecDepth 100000 in
theorem wm_X6_125 : Cond.methodLink RX6 125 yX0_encloses ∈ lwT := lwT_t (List.mem_of_getElem? (i := 412) (by decide +kernel)) rfl
set_option maxRecDepth 100000 in
theorem wm_X6_129 : Cond.methodLink RX6 129 yX1_survey ∈ lwT := lwT_t (List.mem_of_getElem? (i := 424) (by decide +kernel)) rfl
set_option maxRecDepth 100000 in
theorem wm_X6_132 : Cond.methodLink RX6 132 yX0_highestFloor ∈ lwT := lwT_t (List.mem_of_getElem? (i := 436) (by decide +kernel)) rfl
set_option maxRecDepth 100000 in
theorem wm_X6_136 : Cond.methodLink RX6 136 yX1_holds ∈ lwT := lwT_t (List.mem_of_getElem? (i := 444) (by decide +kernel)) rfl
set_option maxRecDepth 100000 in
theorem wm_X6_146 : Cond.methodLink RX6 146 yX5_lie ∈ lwT := lwT_t (List.mem_of_getElem? (i := 454) (by decide +kernel)) rfl
set_option maxRecDepth 100000 in
theorem wm_X6_151 : Cond.methodLink RX6 151 yX0_isFree ∈ lwT := lwT_t (List.mem_of_getElem? (i := 465) (by decide +kernel)) rfl
set_option maxRecDepth 100000 in
theorem wm_X6_154 : Cond.methodLink RX6 154 yX5_leave ∈ lwT := lwT_t (List.mem_of_getElem? (i := 477) (by decide +kernel)) rfl
set_option maxRecDepth 100000 in
theorem wm_X6_157 : Cond.methodLink RX6 157 yX5_property ∈ lwT := lwT_t (List.mem_of_getElem? (i := 486) (by decide +kernel)) rfl
set_option maxRecDepth 100000 in
theorem wm_X6_160 : Cond.methodLink RX6 160 yX6_placedProperty ∈ lwT := lwT_t (List.mem_of_getElem? (i := 490) (by decide +kernel)) rfl
set_option maxRecDepth 100000 in
theorem wm_X6_164 : Cond.methodLink RX6 164 yX0_uppermost ∈ lwT := lwT_t (List.mem_of_getElem? (i := 512) (by decide +kernel)) rfl
set_option maxRecDepth 100000 in
theorem wm_X6_170 : Cond.methodLink RX6 170 yX1_search ∈ lwT := lwT_t (List.mem_of_getElem? (i := 524) (by decide +kernel)) rfl
set_option maxRecDepth 100000 in
theorem wm_X6_189 : Cond.methodLink RX6 189 yX5_tall ∈ lwT := lwT_t (List.mem_of_getElem? (i := 534) (by decide +kernel)) rfl
set_option maxRecDepth 100000 in
theorem wm_X6_192 : Cond.methodLink RX6 192 yX3_packUsually ∈ lwT := lwT_t (List.mem_of_getElem? (i := 543) (by decide +kernel)) rfl
set_option maxRecDepth 100000 in
theorem wm_X6_195 : Cond.methodLink RX6 195 yX6_takeOverPacked ∈ lwT := lwT_t (List.mem_of_getElem? (i := 582) (by decide +kernel)) rfl
set_option maxRecDepth 100000 in
theorem wm_X6_198 : Cond.methodLink RX6 198 yX3_packByBest ∈ lwT := lwT_t (List.mem_of_getElem? (i := 590) (by decide +kernel)) rfl
set_option maxRecDepth 100000 in
theorem wm_X6_208 : Cond.methodLink RX6 208 yX0_playedLifts ∈ lwT := lwT_t (List.mem_of_getElem? (i := 617) (by decide +kernel)) rfl
set_option maxRecDepth 100000 in
theorem wm_X6_214 : Cond.methodLink RX6 214 yX2_restore ∈ lwT := lwT_t (List.mem_of_getElem? (i := 630) (by decide +kernel)) rfl
set_option maxRecDepth 100000 in
theorem wm_X6_217 : Cond.methodLink RX6 217 yX0_freeTrays ∈ lwT := lwT_t (List.mem_of_getElem? (i := 638) (by decide +kernel)) rfl
set_option maxRecDepth 100000 in
theorem wm_X6_220 : Cond.methodLink RX6 220 yX0_filledHeight ∈ lwT := lwT_t (List.mem_of_getElem? (i := 643) (by decide +kernel)) rfl
set_option maxRecDepth 100000 in
theorem wm_X6_223 : Cond.methodLink RX6 223 yX0_air ∈ lwT := lwT_t (List.mem_of_getElem? (i := 644) (by decide +kernel)) rfl
set_option maxRecDepth 100000 in
theorem wm_X6_226 : Cond.methodLink RX6 226 yX0_faults ∈ lwT := lwT_t (List.mem_of_getElem? (i := 645) (by decide +kernel)) rfl
set_option maxRecDepth 100000 in
theorem wm_X6_229 : Cond.methodLink RX6 229 yX0_lifts ∈ lwT := lwT_t (List.mem_of_getElem? (i := 646) (by decide +kernel)) rfl
set_option maxRecDepth 100000 in
theorem wm_X6_236 : Cond.methodLink RX6 236 yX6_count ∈ lwT := lwT_t (List.mem_of_getElem? (i := 656) (by decide +kernel)) rfl
set_option maxRecDepth 100000 in
theorem wm_X6_239 : Cond.methodLink RX6 239 yX6_tray ∈ lwT := lwT_t (List.mem_of_getElem? (i := 657) (by decide +kernel)) rfl
set_option maxRecDepth 100000 in
theorem wm_X6_242 : Cond.methodLink RX6 242 yX6_place ∈ lwT := lwT_t (List.mem_of_getElem? (i := 658) (by decide +kernel)) rfl
set_option maxRecDepth 100000 in
theorem wm_X6_245 : Cond.methodLink RX6 245 yX6_seen ∈ lwT := lwT_t (List.mem_of_getElem? (i := 659) (by decide +kernel)) rfl
set_option maxRecDepth 100000 in
theorem wm_X6_249 : Cond.methodLink RX6 249 yX6_liftsTo ∈ lwT := lwT_t (List.mem_of_getElem? (i := 660) (by decide +kernel)) rfl
set_option maxRecDepth 100000 in
theorem wm_X6_258 : Cond.methodLink RX6 258 yX0_above ∈ lwT := lwT_t (List.mem_of_getElem? (i := 494) (by decide +kernel)) rfl
set_option maxRecDepth 100000 in
theorem wm_X6_261 : Cond.methodLink RX6 261 yX0_faultOf ∈ lwT := lwT_t (List.mem_of_getElem? (i := 498) (by decide +kernel)) rfl
set_option maxRecDepth 100000 in
theorem wm_X6_44 : Cond.methodLink RX6 44 yX6_isWithin ∈ lwT := lwT_t (List.mem_of_getElem? (i := 284) (by decide +kernel)) rfl
set_option maxRecDepth 100000 in
theorem wm_X6_48 : Cond.methodLink RX6 48 yX0_inside ∈ lwT := lwT_t (List.mem_of_getElem? (i := 287) (by decide +kernel)) rfl
set_option maxRecDepth 100000 in
theorem wm_X6_52 : Cond.methodLink RX6 52 yJ6_bitCount_0f7a4 ∈ lwT := lwT_t (List.mem_of_getElem? (i := 291) (by decide +kernel)) rfl
set_option maxRecDepth 100000 in
theorem wm_X6_58 : Cond.methodLink RX6 58 yX2_record ∈ lwT := lwT_t (List.mem_of_getElem? (i := 297) (by decide +kernel)) rfl
set_option maxRecDepth 100000 in
theorem wm_X6_62 : Cond.methodLink RX6 62 yX0_clear ∈ lwT := lwT_t (List.mem_of_getElem? (i := 313) (by decide +kernel)) rfl
set_option maxRecDepth 100000 in
theorem wm_X6_79 : Cond.methodLink RX6 79 yX4_append ∈ lwT := lwT_t (List.mem_of_getElem? (i := 329) (by decide +kernel)) rfl
set_option maxRecDepth 100000 in
theorem wm_X6_83 : Cond.methodLink RX6 83 yX4_read ∈ lwT := lwT_t (List.mem_of_getElem? (i := 341) (by decide +kernel)) rfl
set_option maxRecDepth 100000 in
theorem wm_X6_89 : Cond.methodLink RX6 89 yX0_copyTrays ∈ lwT := lwT_t (List.mem_of_getElem? (i := 382) (by decide +kernel)) rfl
set_option maxRecDepth 100000 in
theorem wm_X7_101 : Cond.methodLink RX7 101 yX7_can ∈ lwT := lwT_t (List.mem_of_getElem? (i := 790) (by decide +kernel)) rfl
set_option maxRecDepth 100000 in
theorem wm_X7_104 : Cond.methodLink RX7 104 yX7_records ∈ lwT := lwT_t (List.mem_of_getElem? (i := 798) (by decide +kernel)) rfl
set_option maxRecDepth 100000 in
theorem wm_X7_107 : Cond.methodLink RX7 107 yX7_comes ∈ lwT := lwT_t (List.mem_of_getElem? (i := 802) (by decide +kernel)) rfl
set_option maxRecDepth 100000 in
theorem wm_X7_111 : Cond.methodLink RX7 111 yX7_meet ∈ lwT := lwT_t (List.mem_of_getElem? (i := 902) (by decide +kernel)) rfl
set_option maxRecDepth 100000 in
theorem wm_X7_115 : Cond.methodLink RX7 115 yX7_liesOn ∈ lwT := lwT_t (List.mem_of_getElem? (i := 898) (by decide +kernel)) rfl
set_option maxRecDepth 100000 in
theorem wm_X7_118 : Cond.methodLink RX7 118 yX7_above ∈ lwT := lwT_t (List.mem_of_getElem? (i := 894) (by decide +kernel)) rfl
set_option maxRecDepth 100000 in
theorem wm_X7_121 : Cond.methodLink RX7 121 yX7_fault ∈ lwT := lwT_t (List.mem_of_getElem? (i := 918) (by decide +kernel)) rfl
set_option maxRecDepth 100000 in
theorem wm_X7_124 : Cond.methodLink RX7 124 yX7_lift ∈ lwT := lwT_t (List.mem_of_getElem? (i := 914) (by decide +kernel)) rfl
set_option maxRecDepth 100000 in
theorem wm_X7_127 : Cond.methodLink RX7 127 yX7_boxHeight ∈ lwT := lwT_t (List.mem_of_getElem? (i := 966) (by decide +kernel)) rfl
set_option maxRecDepth 100000 in
theorem wm_X7_136 : Cond.methodLink RX7 136 yX7_here ∈ lwT := lwT_t (List.mem_of_getElem? (i := 830) (by decide +kernel)) rfl
set_option maxRecDepth 100000 in
theorem wm_X7_144 : Cond.methodLink RX7 144 yX7_fails ∈ lwT := lwT_t (List.mem_of_getElem? (i := 834) (by decide +kernel)) rfl
set_option maxRecDepth 100000 in
theorem wm_X7_150 : Cond.methodLink RX7 150 yX7_isDigit ∈ lwT := lwT_t (List.mem_of_getElem? (i := 826) (by decide +kernel)) rfl
set_option maxRecDepth 100000 in
theorem wm_X7_154 : Cond.methodLink RX7 154 yX7_readsNumber ∈ lwT := lwT_t (List.mem_of_getElem? (i := 846) (by decide +kernel)) rfl
set_option maxRecDepth 100000 in
theorem wm_X7_157 : Cond.methodLink RX7 157 yX7_readsInto ∈ lwT := lwT_t (List.mem_of_getElem? (i := 842) (by decide +kernel)) rfl
set_option maxRecDepth 100000 in
theorem wm_X7_160 : Cond.methodLink RX7 160 yX7_takes ∈ lwT := lwT_t (List.mem_of_getElem? (i := 850) (by decide +kernel)) rfl
set_option maxRecDepth 100000 in
theorem wm_X7_163 : Cond.methodLink RX7 163 yX7_readsTray ∈ lwT := lwT_t (List.mem_of_getElem? (i := 822) (by decide +kernel)) rfl
set_option maxRecDepth 100000 in
theorem wm_X7_166 : Cond.methodLink RX7 166 yX7_recordsKept ∈ lwT := lwT_t (List.mem_of_getElem? (i := 854) (by decide +kernel)) rfl
set_option maxRecDepth 100000 in
theorem wm_X7_169 : Cond.methodLink RX7 169 yX7_inBox ∈ lwT := lwT_t (List.mem_of_getElem? (i := 866) (by decide +kernel)) rfl
set_option maxRecDepth 100000 in
theorem wm_X7_172 : Cond.methodLink RX7 172 yX7_empties ∈ lwT := lwT_t (List.mem_of_getElem? (i := 870) (by decide +kernel)) rfl
set_option maxRecDepth 100000 in
theorem wm_X7_175 : Cond.methodLink RX7 175 yX7_rests ∈ lwT := lwT_t (List.mem_of_getElem? (i := 922) (by decide +kernel)) rfl
set_option maxRecDepth 100000 in
theorem wm_X7_193 : Cond.methodLink RX7 193 yX7_finds ∈ lwT := lwT_t (List.mem_of_getElem? (i := 934) (by decide +kernel)) rfl
set_option maxRecDepth 100000 in
theorem wm_X7_196 : Cond.methodLink RX7 196 yX7_isAhead ∈ lwT := lwT_t (List.mem_of_getElem? (i := 950) (by decide +kernel)) rfl
set_option maxRecDepth 100000 in
theorem wm_X7_199 : Cond.methodLink RX7 199 yX7_swaps ∈ lwT := lwT_t (List.mem_of_getElem? (i := 990) (by decide +kernel)) rfl
set_option maxRecDepth 100000 in
theorem wm_X7_202 : Cond.methodLink RX7 202 yX7_faults ∈ lwT := lwT_t (List.mem_of_getElem? (i := 962) (by decide +kernel)) rfl
set_option maxRecDepth 100000 in
theorem wm_X7_205 : Cond.methodLink RX7 205 yX7_air ∈ lwT := lwT_t (List.mem_of_getElem? (i := 970) (by decide +kernel)) rfl
set_option maxRecDepth 100000 in
theorem wm_X7_208 : Cond.methodLink RX7 208 yX7_comesTo ∈ lwT := lwT_t (List.mem_of_getElem? (i := 958) (by decide +kernel)) rfl
set_option maxRecDepth 100000 in
theorem wm_X7_211 : Cond.methodLink RX7 211 yX7_packs ∈ lwT := lwT_t (List.mem_of_getElem? (i := 954) (by decide +kernel)) rfl
set_option maxRecDepth 100000 in
theorem wm_X7_214 : Cond.methodLink RX7 214 yX7_isBetter ∈ lwT := lwT_t (List.mem_of_getElem? (i := 982) (by decide +kernel)) rfl
set_option maxRecDepth 100000 in
theorem wm_X7_217 : Cond.methodLink RX7 217 yX7_ordersNext ∈ lwT := lwT_t (List.mem_of_getElem? (i := 986) (by decide +kernel)) rfl
set_option maxRecDepth 100000 in
theorem wm_X7_220 : Cond.methodLink RX7 220 yX7_ordersUsually ∈ lwT := lwT_t (List.mem_of_getElem? (i := 946) (by decide +kernel)) rfl
set_option maxRecDepth 100000 in
theorem wm_X7_223 : Cond.methodLink RX7 223 yX7_ordersBest ∈ lwT := lwT_t (List.mem_of_getElem? (i := 978) (by decide +kernel)) rfl
set_option maxRecDepth 100000 in
theorem wm_X7_226 : Cond.methodLink RX7 226 yX7_gets ∈ lwT := lwT_t (List.mem_of_getElem? (i := 1006) (by decide +kernel)) rfl
set_option maxRecDepth 100000 in
theorem wm_X7_229 : Cond.methodLink RX7 229 yX7_plays ∈ lwT := lwT_t (List.mem_of_getElem? (i := 1002) (by decide +kernel)) rfl
set_option maxRecDepth 100000 in
theorem wm_X7_232 : Cond.methodLink RX7 232 yX7_frees ∈ lwT := lwT_t (List.mem_of_getElem? (i := 1018) (by decide +kernel)) rfl
set_option maxRecDepth 100000 in
theorem wm_X7_235 : Cond.methodLink RX7 235 yX7_lifts ∈ lwT := lwT_t (List.mem_of_getElem? (i := 1022) (by decide +kernel)) rfl
set_option maxRecDepth 100000 in
theorem wm_X7_246 : Cond.methodLink RX7 246 yX7_count ∈ lwT := lwT_t (List.mem_of_getElem? (i := 1031) (by decide +kernel)) rfl
set_option maxRecDepth 100000 in
theorem wm_X7_249 : Cond.methodLink RX7 249 yX7_mixes ∈ lwT := lwT_t (List.mem_of_getElem? (i := 1032) (by decide +kernel)) rfl
set_option maxRecDepth 100000 in
theorem wm_X7_252 : Cond.methodLink RX7 252 yX7_tray ∈ lwT := lwT_t (List.mem_of_getElem? (i := 1037) (by decide +kernel)) rfl
set_option maxRecDepth 100000 in
theorem wm_X7_255 : Cond.methodLink RX7 255 yX7_place ∈ lwT := lwT_t (List.mem_of_getElem? (i := 1038) (by decide +kernel)) rfl
set_option maxRecDepth 100000 in
theorem wm_X7_258 : Cond.methodLink RX7 258 yX7_seen ∈ lwT := lwT_t (List.mem_of_getElem? (i := 1039) (by decide +kernel)) rfl
set_option maxRecDepth 100000 in
theorem wm_X7_262 : Cond.methodLink RX7 262 yX7_ifPacked ∈ lwT := lwT_t (List.mem_of_getElem? (i := 1040) (by decide +kernel)) rfl
set_option maxRecDepth 100000 in
theorem wm_X7_266 : Cond.methodLink RX7 266 yX7_liftsTo ∈ lwT := lwT_t (List.mem_of_getElem? (i := 1041) (by decide +kernel)) rfl
set_option maxRecDepth 100000 in
theorem wm_X7_35 : Cond.methodLink RX7 35 yX7_copies ∈ lwT := lwT_t (List.mem_of_getElem? (i := 735) (by decide +kernel)) rfl
set_option maxRecDepth 100000 in
theorem wm_X7_39 : Cond.methodLink RX7 39 yX7_trays ∈ lwT := lwT_t (List.mem_of_getElem? (i := 747) (by decide +kernel)) rfl
set_option maxRecDepth 100000 in
theorem wm_X7_43 : Cond.methodLink RX7 43 yX7_in ∈ lwT := lwT_t (List.mem_of_getElem? (i := 751) (by decide +kernel)) rfl
set_option maxRecDepth 100000 in
theorem wm_X7_47 : Cond.methodLink RX7 47 yX7_of ∈ lwT := lwT_t (List.mem_of_getElem? (i := 762) (by decide +kernel)) rfl
set_option maxRecDepth 100000 in
theorem wm_X7_51 : Cond.methodLink RX7 51 yX7_high ∈ lwT := lwT_t (List.mem_of_getElem? (i := 786) (by decide +kernel)) rfl
set_option maxRecDepth 100000 in
theorem wm_X7_55 : Cond.methodLink RX7 55 yX7_along ∈ lwT := lwT_t (List.mem_of_getElem? (i := 758) (by decide +kernel)) rfl
set_option maxRecDepth 100000 in
theorem wm_X7_59 : Cond.methodLink RX7 59 yX7_spans ∈ lwT := lwT_t (List.mem_of_getElem? (i := 778) (by decide +kernel)) rfl
set_option maxRecDepth 100000 in
theorem wm_X7_63 : Cond.methodLink RX7 63 yX7_sets ∈ lwT := lwT_t (List.mem_of_getElem? (i := 806) (by decide +kernel)) rfl
set_option maxRecDepth 100000 in
theorem wm_X7_67 : Cond.methodLink RX7 67 yX7_leaves ∈ lwT := lwT_t (List.mem_of_getElem? (i := 838) (by decide +kernel)) rfl
set_option maxRecDepth 100000 in
theorem wm_X7_71 : Cond.methodLink RX7 71 yX7_isIn ∈ lwT := lwT_t (List.mem_of_getElem? (i := 766) (by decide +kernel)) rfl
set_option maxRecDepth 100000 in
theorem wm_X7_75 : Cond.methodLink RX7 75 yX7_covers ∈ lwT := lwT_t (List.mem_of_getElem? (i := 774) (by decide +kernel)) rfl
set_option maxRecDepth 100000 in
theorem wm_X7_78 : Cond.methodLink RX7 78 yX7_top ∈ lwT := lwT_t (List.mem_of_getElem? (i := 782) (by decide +kernel)) rfl
set_option maxRecDepth 100000 in
theorem wm_X7_87 : Cond.methodLink RX7 87 yX7_looksAt ∈ lwT := lwT_t (List.mem_of_getElem? (i := 794) (by decide +kernel)) rfl
set_option maxRecDepth 100000 in
theorem wm_X7_91 : Cond.methodLink RX7 91 yX7_laysTops ∈ lwT := lwT_t (List.mem_of_getElem? (i := 770) (by decide +kernel)) rfl
set_option maxRecDepth 100000 in
theorem wm_X7_94 : Cond.methodLink RX7 94 yX7_isTray ∈ lwT := lwT_t (List.mem_of_getElem? (i := 743) (by decide +kernel)) rfl
set_option maxRecDepth 100000 in
theorem wm_X7_97 : Cond.methodLink RX7 97 yX7_isInside ∈ lwT := lwT_t (List.mem_of_getElem? (i := 754) (by decide +kernel)) rfl
set_option maxRecDepth 100000 in
theorem wn_J6 : Cond.initialized RJ6 ∈ lwT := lwT_t (List.mem_of_getElem? (i := 9) (by decide +kernel)) rfl
set_option maxRecDepth 100000 in
theorem wn_J9 : Cond.initialized RJ9 ∈ lwT := lwT_t (List.mem_of_getElem? (i := 10) (by decide +kernel)) rfl
set_option maxRecDepth 100000 in
theorem wn_Sys : Cond.initialized "java/lang/System" ∈ lwT := lwT_t (List.mem_of_getElem? (i := 11) (by decide +kernel)) rfl
set_option maxRecDepth 100000 in
theorem wn_X0 : Cond.initialized RX0 ∈ lwT := lwT_t (List.mem_of_getElem? (i := 2) (by decide +kernel)) rfl
set_option maxRecDepth 100000 in
theorem wn_X1 : Cond.initialized RX1 ∈ lwT := lwT_t (List.mem_of_getElem? (i := 6) (by decide +kernel)) rfl
set_option maxRecDepth 100000 in
theorem wn_X2 : Cond.initialized RX2 ∈ lwT := lwT_t (List.mem_of_getElem? (i := 4) (by decide +kernel)) rfl
set_option maxRecDepth 100000 in
theorem wn_X3 : Cond.initialized RX3 ∈ lwT := lwT_t (List.mem_of_getElem? (i := 7) (by decide +kernel)) rfl
set_option maxRecDepth 100000 in
theorem wn_X4 : Cond.initialized RX4 ∈ lwT := lwT_t (List.mem_of_getElem? (i := 5) (by decide +kernel)) rfl
set_option maxRecDepth 100000 in
theorem wn_X5 : Cond.initialized RX5 ∈ lwT := lwT_t (List.mem_of_getElem? (i := 3) (by decide +kernel)) rfl
set_option maxRecDepth 100000 in
theorem wn_X6 : Cond.initialized RX6 ∈ lwT := lwT_t (List.mem_of_getElem? (i := 1) (by decide +kernel)) rfl
set_option maxRecDepth 100000 in
theorem wn_X7 : Cond.initialized RX7 ∈ lwT := lwT_t (List.mem_of_getElem? (i := 8) (by decide +kernel)) rfl
set_option maxRecDepth 100000 in
theorem wnat_acopy : Cond.native arraycopyName ∈ lwT := lwT_t (List.mem_of_getElem? (i := 600) (by decide +kernel)) rfl
set_option maxRecDepth 100000 in
theorem ws_X0_above : Cond.selects RX0 yX0_above yX0_above ∈ lwT := lwT_t (List.mem_of_getElem? (i := 496) (by decide +kernel)) rfl
set_option maxRecDepth 100000 in
theorem ws_X0_air : Cond.selects RX0 yX0_air yX0_air ∈ lwT := lwT_t (List.mem_of_getElem? (i := 578) (by decide +kernel)) rfl
set_option maxRecDepth 100000 in
theorem ws_X0_clear : Cond.selects RX0 yX0_clear yX0_clear ∈ lwT := lwT_t (List.mem_of_getElem? (i := 315) (by decide +kernel)) rfl
set_option maxRecDepth 100000 in
theorem ws_X0_copyFrom : Cond.selects RX0 yX0_copyFrom yX0_copyFrom ∈ lwT := lwT_t (List.mem_of_getElem? (i := 303) (by decide +kernel)) rfl
set_option maxRecDepth 100000 in
theorem ws_X0_copyTrays : Cond.selects RX0 yX0_copyTrays yX0_copyTrays ∈ lwT := lwT_t (List.mem_of_getElem? (i := 307) (by decide +kernel)) rfl
set_option maxRecDepth 100000 in
theorem ws_X0_encloses : Cond.selects RX0 yX0_encloses yX0_encloses ∈ lwT := lwT_t (List.mem_of_getElem? (i := 414) (by decide +kernel)) rfl
set_option maxRecDepth 100000 in
theorem ws_X0_faultOf : Cond.selects RX0 yX0_faultOf yX0_faultOf ∈ lwT := lwT_t (List.mem_of_getElem? (i := 500) (by decide +kernel)) rfl
set_option maxRecDepth 100000 in
theorem ws_X0_faults : Cond.selects RX0 yX0_faults yX0_faults ∈ lwT := lwT_t (List.mem_of_getElem? (i := 569) (by decide +kernel)) rfl
set_option maxRecDepth 100000 in
theorem ws_X0_filledHeight : Cond.selects RX0 yX0_filledHeight yX0_filledHeight ∈ lwT := lwT_t (List.mem_of_getElem? (i := 573) (by decide +kernel)) rfl
set_option maxRecDepth 100000 in
theorem ws_X0_freeTrays : Cond.selects RX0 yX0_freeTrays yX0_freeTrays ∈ lwT := lwT_t (List.mem_of_getElem? (i := 640) (by decide +kernel)) rfl
set_option maxRecDepth 100000 in
theorem ws_X0_has : Cond.selects RX0 yX0_has yX0_has ∈ lwT := lwT_t (List.mem_of_getElem? (i := 398) (by decide +kernel)) rfl
set_option maxRecDepth 100000 in
theorem ws_X0_highestFloor : Cond.selects RX0 yX0_highestFloor yX0_highestFloor ∈ lwT := lwT_t (List.mem_of_getElem? (i := 438) (by decide +kernel)) rfl
set_option maxRecDepth 100000 in
theorem ws_X0_inside : Cond.selects RX0 yX0_inside yX0_inside ∈ lwT := lwT_t (List.mem_of_getElem? (i := 289) (by decide +kernel)) rfl
set_option maxRecDepth 100000 in
theorem ws_X0_isFree : Cond.selects RX0 yX0_isFree yX0_isFree ∈ lwT := lwT_t (List.mem_of_getElem? (i := 467) (by decide +kernel)) rfl
set_option maxRecDepth 100000 in
theorem ws_X0_lateOnes : Cond.selects RX0 yX0_lateOnes yX0_lateOnes ∈ lwT := lwT_p (List.mem_of_getElem? (i := 9) (by decide +kernel)) rfl
set_option maxRecDepth 100000 in
theorem ws_X0_lifts : Cond.selects RX0 yX0_lifts yX0_lifts ∈ lwT := lwT_t (List.mem_of_getElem? (i := 648) (by decide +kernel)) rfl
set_option maxRecDepth 100000 in
theorem ws_X0_lyingOn : Cond.selects RX0 yX0_lyingOn yX0_lyingOn ∈ lwT := lwT_p (List.mem_of_getElem? (i := 7) (by decide +kernel)) rfl
set_option maxRecDepth 100000 in
theorem ws_X0_playedLifts : Cond.selects RX0 yX0_playedLifts yX0_playedLifts ∈ lwT := lwT_t (List.mem_of_getElem? (i := 619) (by decide +kernel)) rfl
set_option maxRecDepth 100000 in
theorem ws_X0_remove : Cond.selects RX0 yX0_remove yX0_remove ∈ lwT := lwT_t (List.mem_of_getElem? (i := 402) (by decide +kernel)) rfl
set_option maxRecDepth 100000 in
theorem ws_X0_uppermost : Cond.selects RX0 yX0_uppermost yX0_uppermost ∈ lwT := lwT_t (List.mem_of_getElem? (i := 514) (by decide +kernel)) rfl
set_option maxRecDepth 100000 in
theorem ws_X1_holds : Cond.selects RX1 yX1_holds yX1_holds ∈ lwT := lwT_t (List.mem_of_getElem? (i := 446) (by decide +kernel)) rfl
set_option maxRecDepth 100000 in
theorem ws_X1_keep : Cond.selects RX1 yX1_keep yX1_keep ∈ lwT := lwT_p (List.mem_of_getElem? (i := 10) (by decide +kernel)) rfl
set_option maxRecDepth 100000 in
theorem ws_X1_raise : Cond.selects RX1 yX1_raise yX1_raise ∈ lwT := lwT_t (List.mem_of_getElem? (i := 430) (by decide +kernel)) rfl
set_option maxRecDepth 100000 in
theorem ws_X1_search : Cond.selects RX1 yX1_search yX1_search ∈ lwT := lwT_t (List.mem_of_getElem? (i := 526) (by decide +kernel)) rfl
set_option maxRecDepth 100000 in
theorem ws_X1_survey : Cond.selects RX1 yX1_survey yX1_survey ∈ lwT := lwT_t (List.mem_of_getElem? (i := 426) (by decide +kernel)) rfl
set_option maxRecDepth 100000 in
theorem ws_X2_record : Cond.selects RX2 yX2_record yX2_record ∈ lwT := lwT_t (List.mem_of_getElem? (i := 299) (by decide +kernel)) rfl
set_option maxRecDepth 100000 in
theorem ws_X2_restore : Cond.selects RX2 yX2_restore yX2_restore ∈ lwT := lwT_t (List.mem_of_getElem? (i := 632) (by decide +kernel)) rfl
set_option maxRecDepth 100000 in
theorem ws_X3_isTriedBetter : Cond.selects RX3 yX3_isTriedBetter yX3_isTriedBetter ∈ lwT := lwT_p (List.mem_of_getElem? (i := 14) (by decide +kernel)) rfl
set_option maxRecDepth 100000 in
theorem ws_X3_letDownFrom : Cond.selects RX3 yX3_letDownFrom yX3_letDownFrom ∈ lwT := lwT_p (List.mem_of_getElem? (i := 11) (by decide +kernel)) rfl
set_option maxRecDepth 100000 in
theorem ws_X3_measure : Cond.selects RX3 yX3_measure yX3_measure ∈ lwT := lwT_p (List.mem_of_getElem? (i := 12) (by decide +kernel)) rfl
set_option maxRecDepth 100000 in
theorem ws_X3_packByBest : Cond.selects RX3 yX3_packByBest yX3_packByBest ∈ lwT := lwT_t (List.mem_of_getElem? (i := 592) (by decide +kernel)) rfl
set_option maxRecDepth 100000 in
theorem ws_X3_packUsually : Cond.selects RX3 yX3_packUsually yX3_packUsually ∈ lwT := lwT_t (List.mem_of_getElem? (i := 545) (by decide +kernel)) rfl
set_option maxRecDepth 100000 in
theorem ws_X3_stepToNextOrder : Cond.selects RX3 yX3_stepToNextOrder yX3_stepToNextOrder ∈ lwT := lwT_p (List.mem_of_getElem? (i := 15) (by decide +kernel)) rfl
set_option maxRecDepth 100000 in
theorem ws_X3_swap : Cond.selects RX3 yX3_swap yX3_swap ∈ lwT := lwT_p (List.mem_of_getElem? (i := 16) (by decide +kernel)) rfl
set_option maxRecDepth 100000 in
theorem ws_X4_append : Cond.selects RX4 yX4_append yX4_append ∈ lwT := lwT_t (List.mem_of_getElem? (i := 331) (by decide +kernel)) rfl
set_option maxRecDepth 100000 in
theorem ws_X4_fail : Cond.selects RX4 yX4_fail yX4_fail ∈ lwT := lwT_p (List.mem_of_getElem? (i := 2) (by decide +kernel)) rfl
set_option maxRecDepth 100000 in
theorem ws_X4_next : Cond.selects RX4 yX4_next yX4_next ∈ lwT := lwT_p (List.mem_of_getElem? (i := 1) (by decide +kernel)) rfl
set_option maxRecDepth 100000 in
theorem ws_X4_read : Cond.selects RX4 yX4_read yX4_read ∈ lwT := lwT_t (List.mem_of_getElem? (i := 343) (by decide +kernel)) rfl
set_option maxRecDepth 100000 in
theorem ws_X4_readLid : Cond.selects RX4 yX4_readLid yX4_readLid ∈ lwT := lwT_p (List.mem_of_getElem? (i := 5) (by decide +kernel)) rfl
set_option maxRecDepth 100000 in
theorem ws_X4_readNumber : Cond.selects RX4 yX4_readNumber yX4_readNumber ∈ lwT := lwT_p (List.mem_of_getElem? (i := 3) (by decide +kernel)) rfl
set_option maxRecDepth 100000 in
theorem ws_X4_readSign : Cond.selects RX4 yX4_readSign yX4_readSign ∈ lwT := lwT_p (List.mem_of_getElem? (i := 4) (by decide +kernel)) rfl
set_option maxRecDepth 100000 in
theorem ws_X4_readTray : Cond.selects RX4 yX4_readTray yX4_readTray ∈ lwT := lwT_p (List.mem_of_getElem? (i := 0) (by decide +kernel)) rfl
set_option maxRecDepth 100000 in
theorem ws_X4_readTurn : Cond.selects RX4 yX4_readTurn yX4_readTurn ∈ lwT := lwT_p (List.mem_of_getElem? (i := 6) (by decide +kernel)) rfl
set_option maxRecDepth 100000 in
theorem ws_X5_alongX : Cond.selects RX5 yX5_alongX yX5_alongX ∈ lwT := lwT_t (List.mem_of_getElem? (i := 418) (by decide +kernel)) rfl
set_option maxRecDepth 100000 in
theorem ws_X5_alongY : Cond.selects RX5 yX5_alongY yX5_alongY ∈ lwT := lwT_t (List.mem_of_getElem? (i := 422) (by decide +kernel)) rfl
set_option maxRecDepth 100000 in
theorem ws_X5_area : Cond.selects RX5 yX5_area yX5_area ∈ lwT := lwT_t (List.mem_of_getElem? (i := 452) (by decide +kernel)) rfl
set_option maxRecDepth 100000 in
theorem ws_X5_become : Cond.selects RX5 yX5_become yX5_become ∈ lwT := lwT_t (List.mem_of_getElem? (i := 371) (by decide +kernel)) rfl
set_option maxRecDepth 100000 in
theorem ws_X5_copyFrom : Cond.selects RX5 yX5_copyFrom yX5_copyFrom ∈ lwT := lwT_t (List.mem_of_getElem? (i := 311) (by decide +kernel)) rfl
set_option maxRecDepth 100000 in
theorem ws_X5_covers : Cond.selects RX5 yX5_covers yX5_covers ∈ lwT := lwT_t (List.mem_of_getElem? (i := 518) (by decide +kernel)) rfl
set_option maxRecDepth 100000 in
theorem ws_X5_leave : Cond.selects RX5 yX5_leave yX5_leave ∈ lwT := lwT_t (List.mem_of_getElem? (i := 319) (by decide +kernel)) rfl
set_option maxRecDepth 100000 in
theorem ws_X5_lie : Cond.selects RX5 yX5_lie yX5_lie ∈ lwT := lwT_t (List.mem_of_getElem? (i := 456) (by decide +kernel)) rfl
set_option maxRecDepth 100000 in
theorem ws_X5_liesOn : Cond.selects RX5 yX5_liesOn yX5_liesOn ∈ lwT := lwT_t (List.mem_of_getElem? (i := 475) (by decide +kernel)) rfl
set_option maxRecDepth 100000 in
theorem ws_X5_property : Cond.selects RX5 yX5_property yX5_property ∈ lwT := lwT_t (List.mem_of_getElem? (i := 488) (by decide +kernel)) rfl
set_option maxRecDepth 100000 in
theorem ws_X5_tall : Cond.selects RX5 yX5_tall yX5_tall ∈ lwT := lwT_t (List.mem_of_getElem? (i := 442) (by decide +kernel)) rfl
set_option maxRecDepth 100000 in
theorem ws_X6_count : Cond.selects RX6 yX6_count yX6_count ∈ lwT := lwT_t (List.mem_of_getElem? (i := 636) (by decide +kernel)) rfl
set_option maxRecDepth 100000 in
theorem ws_X6_liftsTo : Cond.selects RX6 yX6_liftsTo yX6_liftsTo ∈ lwT := lwT_t (List.mem_of_getElem? (i := 624) (by decide +kernel)) rfl
set_option maxRecDepth 100000 in
theorem ws_X6_place : Cond.selects RX6 yX6_place yX6_place ∈ lwT := lwT_t (List.mem_of_getElem? (i := 522) (by decide +kernel)) rfl
set_option maxRecDepth 100000 in
theorem ws_X6_placedProperty : Cond.selects RX6 yX6_placedProperty yX6_placedProperty ∈ lwT := lwT_p (List.mem_of_getElem? (i := 8) (by decide +kernel)) rfl
set_option maxRecDepth 100000 in
theorem ws_X6_seen : Cond.selects RX6 yX6_seen yX6_seen ∈ lwT := lwT_t (List.mem_of_getElem? (i := 510) (by decide +kernel)) rfl
set_option maxRecDepth 100000 in
theorem ws_X6_takeOverPacked : Cond.selects RX6 yX6_takeOverPacked yX6_takeOverPacked ∈ lwT := lwT_p (List.mem_of_getElem? (i := 13) (by decide +kernel)) rfl
set_option maxRecDepth 100000 in
theorem ws_X6_tray : Cond.selects RX6 yX6_tray yX6_tray ∈ lwT := lwT_t (List.mem_of_getElem? (i := 484) (by decide +kernel)) rfl
set_option maxRecDepth 100000 in
theorem ws_X7_above : Cond.selects RX7 yX7_above yX7_above ∈ lwT := lwT_p (List.mem_of_getElem? (i := 45) (by decide +kernel)) rfl
set_option maxRecDepth 100000 in
theorem ws_X7_air : Cond.selects RX7 yX7_air yX7_air ∈ lwT := lwT_p (List.mem_of_getElem? (i := 58) (by decide +kernel)) rfl
set_option maxRecDepth 100000 in
theorem ws_X7_along : Cond.selects RX7 yX7_along yX7_along ∈ lwT := lwT_p (List.mem_of_getElem? (i := 21) (by decide +kernel)) rfl
set_option maxRecDepth 100000 in
theorem ws_X7_boxHeight : Cond.selects RX7 yX7_boxHeight yX7_boxHeight ∈ lwT := lwT_p (List.mem_of_getElem? (i := 57) (by decide +kernel)) rfl
set_option maxRecDepth 100000 in
theorem ws_X7_can : Cond.selects RX7 yX7_can yX7_can ∈ lwT := lwT_p (List.mem_of_getElem? (i := 29) (by decide +kernel)) rfl
set_option maxRecDepth 100000 in
theorem ws_X7_comes : Cond.selects RX7 yX7_comes yX7_comes ∈ lwT := lwT_p (List.mem_of_getElem? (i := 32) (by decide +kernel)) rfl
set_option maxRecDepth 100000 in
theorem ws_X7_comesTo : Cond.selects RX7 yX7_comesTo yX7_comesTo ∈ lwT := lwT_p (List.mem_of_getElem? (i := 55) (by decide +kernel)) rfl
set_option maxRecDepth 100000 in
theorem ws_X7_copies : Cond.selects RX7 yX7_copies yX7_copies ∈ lwT := lwT_p (List.mem_of_getElem? (i := 17) (by decide +kernel)) rfl
set_option maxRecDepth 100000 in
theorem ws_X7_count : Cond.selects RX7 yX7_count yX7_count ∈ lwT := lwT_t (List.mem_of_getElem? (i := 1016) (by decide +kernel)) rfl
set_option maxRecDepth 100000 in
theorem ws_X7_covers : Cond.selects RX7 yX7_covers yX7_covers ∈ lwT := lwT_p (List.mem_of_getElem? (i := 25) (by decide +kernel)) rfl
set_option maxRecDepth 100000 in
theorem ws_X7_empties : Cond.selects RX7 yX7_empties yX7_empties ∈ lwT := lwT_p (List.mem_of_getElem? (i := 44) (by decide +kernel)) rfl
set_option maxRecDepth 100000 in
theorem ws_X7_fails : Cond.selects RX7 yX7_fails yX7_fails ∈ lwT := lwT_p (List.mem_of_getElem? (i := 37) (by decide +kernel)) rfl
set_option maxRecDepth 100000 in
theorem ws_X7_fault : Cond.selects RX7 yX7_fault yX7_fault ∈ lwT := lwT_p (List.mem_of_getElem? (i := 49) (by decide +kernel)) rfl
set_option maxRecDepth 100000 in
theorem ws_X7_faults : Cond.selects RX7 yX7_faults yX7_faults ∈ lwT := lwT_p (List.mem_of_getElem? (i := 56) (by decide +kernel)) rfl
set_option maxRecDepth 100000 in
theorem ws_X7_finds : Cond.selects RX7 yX7_finds yX7_finds ∈ lwT := lwT_p (List.mem_of_getElem? (i := 51) (by decide +kernel)) rfl
set_option maxRecDepth 100000 in
theorem ws_X7_frees : Cond.selects RX7 yX7_frees yX7_frees ∈ lwT := lwT_p (List.mem_of_getElem? (i := 65) (by decide +kernel)) rfl
set_option maxRecDepth 100000 in
theorem ws_X7_gets : Cond.selects RX7 yX7_gets yX7_gets ∈ lwT := lwT_p (List.mem_of_getElem? (i := 64) (by decide +kernel)) rfl
set_option maxRecDepth 100000 in
theorem ws_X7_here : Cond.selects RX7 yX7_here yX7_here ∈ lwT := lwT_p (List.mem_of_getElem? (i := 36) (by decide +kernel)) rfl
set_option maxRecDepth 100000 in
theorem ws_X7_high : Cond.selects RX7 yX7_high yX7_high ∈ lwT := lwT_p (List.mem_of_getElem? (i := 28) (by decide +kernel)) rfl
set_option maxRecDepth 100000 in
theorem ws_X7_ifPacked : Cond.selects RX7 yX7_ifPacked yX7_ifPacked ∈ lwT := lwT_t (List.mem_of_getElem? (i := 996) (by decide +kernel)) rfl
set_option maxRecDepth 100000 in
theorem ws_X7_inBox : Cond.selects RX7 yX7_inBox yX7_inBox ∈ lwT := lwT_p (List.mem_of_getElem? (i := 43) (by decide +kernel)) rfl
set_option maxRecDepth 100000 in
theorem ws_X7_isAhead : Cond.selects RX7 yX7_isAhead yX7_isAhead ∈ lwT := lwT_p (List.mem_of_getElem? (i := 53) (by decide +kernel)) rfl
set_option maxRecDepth 100000 in
theorem ws_X7_isBetter : Cond.selects RX7 yX7_isBetter yX7_isBetter ∈ lwT := lwT_p (List.mem_of_getElem? (i := 60) (by decide +kernel)) rfl
set_option maxRecDepth 100000 in
theorem ws_X7_isDigit : Cond.selects RX7 yX7_isDigit yX7_isDigit ∈ lwT := lwT_p (List.mem_of_getElem? (i := 35) (by decide +kernel)) rfl
set_option maxRecDepth 100000 in
theorem ws_X7_isIn : Cond.selects RX7 yX7_isIn yX7_isIn ∈ lwT := lwT_p (List.mem_of_getElem? (i := 23) (by decide +kernel)) rfl
set_option maxRecDepth 100000 in
theorem ws_X7_isInside : Cond.selects RX7 yX7_isInside yX7_isInside ∈ lwT := lwT_p (List.mem_of_getElem? (i := 20) (by decide +kernel)) rfl
set_option maxRecDepth 100000 in
theorem ws_X7_isTray : Cond.selects RX7 yX7_isTray yX7_isTray ∈ lwT := lwT_p (List.mem_of_getElem? (i := 18) (by decide +kernel)) rfl
set_option maxRecDepth 100000 in
theorem ws_X7_laysTops : Cond.selects RX7 yX7_laysTops yX7_laysTops ∈ lwT := lwT_p (List.mem_of_getElem? (i := 24) (by decide +kernel)) rfl
set_option maxRecDepth 100000 in
theorem ws_X7_leaves : Cond.selects RX7 yX7_leaves yX7_leaves ∈ lwT := lwT_p (List.mem_of_getElem? (i := 38) (by decide +kernel)) rfl
set_option maxRecDepth 100000 in
theorem ws_X7_liesOn : Cond.selects RX7 yX7_liesOn yX7_liesOn ∈ lwT := lwT_p (List.mem_of_getElem? (i := 46) (by decide +kernel)) rfl
set_option maxRecDepth 100000 in
theorem ws_X7_lift : Cond.selects RX7 yX7_lift yX7_lift ∈ lwT := lwT_p (List.mem_of_getElem? (i := 48) (by decide +kernel)) rfl
set_option maxRecDepth 100000 in
theorem ws_X7_lifts : Cond.selects RX7 yX7_lifts yX7_lifts ∈ lwT := lwT_p (List.mem_of_getElem? (i := 66) (by decide +kernel)) rfl
set_option maxRecDepth 100000 in
theorem ws_X7_liftsTo : Cond.selects RX7 yX7_liftsTo yX7_liftsTo ∈ lwT := lwT_t (List.mem_of_getElem? (i := 1012) (by decide +kernel)) rfl
set_option maxRecDepth 100000 in
theorem ws_X7_looksAt : Cond.selects RX7 yX7_looksAt yX7_looksAt ∈ lwT := lwT_p (List.mem_of_getElem? (i := 30) (by decide +kernel)) rfl
set_option maxRecDepth 100000 in
theorem ws_X7_meet : Cond.selects RX7 yX7_meet yX7_meet ∈ lwT := lwT_p (List.mem_of_getElem? (i := 47) (by decide +kernel)) rfl
set_option maxRecDepth 100000 in
theorem ws_X7_mixes : Cond.selects RX7 yX7_mixes yX7_mixes ∈ lwT := lwT_p (List.mem_of_getElem? (i := 67) (by decide +kernel)) rfl
set_option maxRecDepth 100000 in
theorem ws_X7_of : Cond.selects RX7 yX7_of yX7_of ∈ lwT := lwT_p (List.mem_of_getElem? (i := 22) (by decide +kernel)) rfl
set_option maxRecDepth 100000 in
theorem ws_X7_ordersBest : Cond.selects RX7 yX7_ordersBest yX7_ordersBest ∈ lwT := lwT_p (List.mem_of_getElem? (i := 59) (by decide +kernel)) rfl
set_option maxRecDepth 100000 in
theorem ws_X7_ordersNext : Cond.selects RX7 yX7_ordersNext yX7_ordersNext ∈ lwT := lwT_p (List.mem_of_getElem? (i := 61) (by decide +kernel)) rfl
set_option maxRecDepth 100000 in
theorem ws_X7_ordersUsually : Cond.selects RX7 yX7_ordersUsually yX7_ordersUsually ∈ lwT := lwT_p (List.mem_of_getElem? (i := 52) (by decide +kernel)) rfl
set_option maxRecDepth 100000 in
theorem ws_X7_packs : Cond.selects RX7 yX7_packs yX7_packs ∈ lwT := lwT_p (List.mem_of_getElem? (i := 54) (by decide +kernel)) rfl
set_option maxRecDepth 100000 in
theorem ws_X7_place : Cond.selects RX7 yX7_place yX7_place ∈ lwT := lwT_t (List.mem_of_getElem? (i := 932) (by decide +kernel)) rfl
set_option maxRecDepth 100000 in
theorem ws_X7_plays : Cond.selects RX7 yX7_plays yX7_plays ∈ lwT := lwT_p (List.mem_of_getElem? (i := 63) (by decide +kernel)) rfl
set_option maxRecDepth 100000 in
theorem ws_X7_readsInto : Cond.selects RX7 yX7_readsInto yX7_readsInto ∈ lwT := lwT_p (List.mem_of_getElem? (i := 39) (by decide +kernel)) rfl
set_option maxRecDepth 100000 in
theorem ws_X7_readsNumber : Cond.selects RX7 yX7_readsNumber yX7_readsNumber ∈ lwT := lwT_p (List.mem_of_getElem? (i := 40) (by decide +kernel)) rfl
set_option maxRecDepth 100000 in
theorem ws_X7_readsTray : Cond.selects RX7 yX7_readsTray yX7_readsTray ∈ lwT := lwT_p (List.mem_of_getElem? (i := 34) (by decide +kernel)) rfl
set_option maxRecDepth 100000 in
theorem ws_X7_records : Cond.selects RX7 yX7_records yX7_records ∈ lwT := lwT_p (List.mem_of_getElem? (i := 31) (by decide +kernel)) rfl
set_option maxRecDepth 100000 in
theorem ws_X7_recordsKept : Cond.selects RX7 yX7_recordsKept yX7_recordsKept ∈ lwT := lwT_p (List.mem_of_getElem? (i := 42) (by decide +kernel)) rfl
set_option maxRecDepth 100000 in
theorem ws_X7_rests : Cond.selects RX7 yX7_rests yX7_rests ∈ lwT := lwT_p (List.mem_of_getElem? (i := 50) (by decide +kernel)) rfl
set_option maxRecDepth 100000 in
theorem ws_X7_seen : Cond.selects RX7 yX7_seen yX7_seen ∈ lwT := lwT_t (List.mem_of_getElem? (i := 928) (by decide +kernel)) rfl
set_option maxRecDepth 100000 in
theorem ws_X7_sets : Cond.selects RX7 yX7_sets yX7_sets ∈ lwT := lwT_p (List.mem_of_getElem? (i := 33) (by decide +kernel)) rfl
set_option maxRecDepth 100000 in
theorem ws_X7_spans : Cond.selects RX7 yX7_spans yX7_spans ∈ lwT := lwT_p (List.mem_of_getElem? (i := 26) (by decide +kernel)) rfl
set_option maxRecDepth 100000 in
theorem ws_X7_swaps : Cond.selects RX7 yX7_swaps yX7_swaps ∈ lwT := lwT_p (List.mem_of_getElem? (i := 62) (by decide +kernel)) rfl
set_option maxRecDepth 100000 in
theorem ws_X7_takes : Cond.selects RX7 yX7_takes yX7_takes ∈ lwT := lwT_p (List.mem_of_getElem? (i := 41) (by decide +kernel)) rfl
set_option maxRecDepth 100000 in
theorem ws_X7_top : Cond.selects RX7 yX7_top yX7_top ∈ lwT := lwT_p (List.mem_of_getElem? (i := 27) (by decide +kernel)) rfl
set_option maxRecDepth 100000 in
theorem ws_X7_tray : Cond.selects RX7 yX7_tray yX7_tray ∈ lwT := lwT_t (List.mem_of_getElem? (i := 912) (by decide +kernel)) rfl
set_option maxRecDepth 100000 in
theorem ws_X7_trays : Cond.selects RX7 yX7_trays yX7_trays ∈ lwT := lwT_p (List.mem_of_getElem? (i := 19) (by decide +kernel)) rfl
set_option maxRecDepth 100000 in
theorem wt_J6_bitCount_0f7a4 : Cond.static yJ6_bitCount_0f7a4 ∈ lwT := lwT_t (List.mem_of_getElem? (i := 292) (by decide +kernel)) rfl
set_option maxRecDepth 100000 in
theorem wt_J9_max_7cf53 : Cond.static yJ9_max_7cf53 ∈ lwT := lwT_t (List.mem_of_getElem? (i := 434) (by decide +kernel)) rfl
set_option maxRecDepth 100000 in
theorem wt_X3_isBefore : Cond.static yX3_isBefore ∈ lwT := lwT_t (List.mem_of_getElem? (i := 549) (by decide +kernel)) rfl
set_option maxRecDepth 100000 in
theorem wt_X4_isDigit : Cond.static yX4_isDigit ∈ lwT := lwT_t (List.mem_of_getElem? (i := 354) (by decide +kernel)) rfl
set_option maxRecDepth 100000 in
theorem wt_X6_isWithin : Cond.static yX6_isWithin ∈ lwT := lwT_t (List.mem_of_getElem? (i := 285) (by decide +kernel)) rfl
set_option maxRecDepth 100000 in
theorem wt_X7_in : Cond.static yX7_in ∈ lwT := lwT_t (List.mem_of_getElem? (i := 752) (by decide +kernel)) rfl
set_option maxRecDepth 100000 in
theorem wt_acopy : Cond.static arraycopyName ∈ lwT := lwT_t (List.mem_of_getElem? (i := 599) (by decide +kernel)) rfl
theorem hd_J6_bitCount_0f7a4 : yJ6_bitCount_0f7a4.cls ≠ "java/lang/invoke/MethodHandle" ∧ yJ6_bitCount_0f7a4.cls ≠ "java/lang/invoke/VarHandle" ∧ (parseMethodDescriptor yJ6_bitCount_0f7a4.desc).map (fun d => d.parameters.length) = some 1 := by decide +kernel
theorem hd_X0_above : yX0_above.cls = RX0 ∧ yX0_above.cls ≠ "java/lang/invoke/MethodHandle" ∧ yX0_above.cls ≠ "java/lang/invoke/VarHandle" ∧ (parseMethodDescriptor yX0_above.desc).map (fun d => d.parameters.length) = some 2 := by decide +kernel
theorem hd_X0_air : yX0_air.cls = RX0 ∧ yX0_air.cls ≠ "java/lang/invoke/MethodHandle" ∧ yX0_air.cls ≠ "java/lang/invoke/VarHandle" ∧ (parseMethodDescriptor yX0_air.desc).map (fun d => d.parameters.length) = some 0 := by decide +kernel
theorem hd_X0_clear : yX0_clear.cls = RX0 ∧ yX0_clear.cls ≠ "java/lang/invoke/MethodHandle" ∧ yX0_clear.cls ≠ "java/lang/invoke/VarHandle" ∧ (parseMethodDescriptor yX0_clear.desc).map (fun d => d.parameters.length) = some 0 := by decide +kernel
theorem hd_X0_copyFrom : yX0_copyFrom.cls = RX0 ∧ yX0_copyFrom.cls ≠ "java/lang/invoke/MethodHandle" ∧ yX0_copyFrom.cls ≠ "java/lang/invoke/VarHandle" ∧ (parseMethodDescriptor yX0_copyFrom.desc).map (fun d => d.parameters.length) = some 1 := by decide +kernel
theorem hd_X0_copyTrays : yX0_copyTrays.cls = RX0 ∧ yX0_copyTrays.cls ≠ "java/lang/invoke/MethodHandle" ∧ yX0_copyTrays.cls ≠ "java/lang/invoke/VarHandle" ∧ (parseMethodDescriptor yX0_copyTrays.desc).map (fun d => d.parameters.length) = some 1 := by decide +kernel
theorem hd_X0_encloses : yX0_encloses.cls = RX0 ∧ yX0_encloses.cls ≠ "java/lang/invoke/MethodHandle" ∧ yX0_encloses.cls ≠ "java/lang/invoke/VarHandle" ∧ (parseMethodDescriptor yX0_encloses.desc).map (fun d => d.parameters.length) = some 4 := by decide +kernel
theorem hd_X0_faultOf : yX0_faultOf.cls = RX0 ∧ yX0_faultOf.cls ≠ "java/lang/invoke/MethodHandle" ∧ yX0_faultOf.cls ≠ "java/lang/invoke/VarHandle" ∧ (parseMethodDescriptor yX0_faultOf.desc).map (fun d => d.parameters.length) = some 1 := by decide +kernel
theorem hd_X0_faults : yX0_faults.cls = RX0 ∧ yX0_faults.cls ≠ "java/lang/invoke/MethodHandle" ∧ yX0_faults.cls ≠ "java/lang/invoke/VarHandle" ∧ (parseMethodDescriptor yX0_faults.desc).map (fun d => d.parameters.length) = some 0 := by decide +kernel
theorem hd_X0_filledHeight : yX0_filledHeight.cls = RX0 ∧ yX0_filledHeight.cls ≠ "java/lang/invoke/MethodHandle" ∧ yX0_filledHeight.cls ≠ "java/lang/invoke/VarHandle" ∧ (parseMethodDescriptor yX0_filledHeight.desc).map (fun d => d.parameters.length) = some 0 := by decide +kernel
theorem hd_X0_freeTrays : yX0_freeTrays.cls = RX0 ∧ yX0_freeTrays.cls ≠ "java/lang/invoke/MethodHandle" ∧ yX0_freeTrays.cls ≠ "java/lang/invoke/VarHandle" ∧ (parseMethodDescriptor yX0_freeTrays.desc).map (fun d => d.parameters.length) = some 0 := by decide +kernel
theorem hd_X0_has : yX0_has.cls = RX0 ∧ yX0_has.cls ≠ "java/lang/invoke/MethodHandle" ∧ yX0_has.cls ≠ "java/lang/invoke/VarHandle" ∧ (parseMethodDescriptor yX0_has.desc).map (fun d => d.parameters.length) = some 1 := by decide +kernel
theorem hd_X0_highestFloor : yX0_highestFloor.cls = RX0 ∧ yX0_highestFloor.cls ≠ "java/lang/invoke/MethodHandle" ∧ yX0_highestFloor.cls ≠ "java/lang/invoke/VarHandle" ∧ (parseMethodDescriptor yX0_highestFloor.desc).map (fun d => d.parameters.length) = some 1 := by decide +kernel
theorem hd_X0_inside : yX0_inside.cls = RX0 ∧ yX0_inside.cls ≠ "java/lang/invoke/MethodHandle" ∧ yX0_inside.cls ≠ "java/lang/invoke/VarHandle" ∧ (parseMethodDescriptor yX0_inside.desc).map (fun d => d.parameters.length) = some 0 := by decide +kernel
theorem hd_X0_isFree : yX0_isFree.cls = RX0 ∧ yX0_isFree.cls ≠ "java/lang/invoke/MethodHandle" ∧ yX0_isFree.cls ≠ "java/lang/invoke/VarHandle" ∧ (parseMethodDescriptor yX0_isFree.desc).map (fun d => d.parameters.length) = some 1 := by decide +kernel
theorem hd_X0_lateOnes : yX0_lateOnes.cls = RX0 ∧ yX0_lateOnes.cls ≠ "java/lang/invoke/MethodHandle" ∧ yX0_lateOnes.cls ≠ "java/lang/invoke/VarHandle" ∧ (parseMethodDescriptor yX0_lateOnes.desc).map (fun d => d.parameters.length) = some 2 := by decide +kernel
theorem hd_X0_lifts : yX0_lifts.cls = RX0 ∧ yX0_lifts.cls ≠ "java/lang/invoke/MethodHandle" ∧ yX0_lifts.cls ≠ "java/lang/invoke/VarHandle" ∧ (parseMethodDescriptor yX0_lifts.desc).map (fun d => d.parameters.length) = some 0 := by decide +kernel
theorem hd_X0_lyingOn : yX0_lyingOn.cls = RX0 ∧ yX0_lyingOn.cls ≠ "java/lang/invoke/MethodHandle" ∧ yX0_lyingOn.cls ≠ "java/lang/invoke/VarHandle" ∧ (parseMethodDescriptor yX0_lyingOn.desc).map (fun d => d.parameters.length) = some 1 := by decide +kernel
theorem hd_X0_playedLifts : yX0_playedLifts.cls = RX0 ∧ yX0_playedLifts.cls ≠ "java/lang/invoke/MethodHandle" ∧ yX0_playedLifts.cls ≠ "java/lang/invoke/VarHandle" ∧ (parseMethodDescriptor yX0_playedLifts.desc).map (fun d => d.parameters.length) = some 1 := by decide +kernel
theorem hd_X0_remove : yX0_remove.cls = RX0 ∧ yX0_remove.cls ≠ "java/lang/invoke/MethodHandle" ∧ yX0_remove.cls ≠ "java/lang/invoke/VarHandle" ∧ (parseMethodDescriptor yX0_remove.desc).map (fun d => d.parameters.length) = some 1 := by decide +kernel
theorem hd_X0_uppermost : yX0_uppermost.cls = RX0 ∧ yX0_uppermost.cls ≠ "java/lang/invoke/MethodHandle" ∧ yX0_uppermost.cls ≠ "java/lang/invoke/VarHandle" ∧ (parseMethodDescriptor yX0_uppermost.desc).map (fun d => d.parameters.length) = some 2 := by decide +kernel
theorem hd_X1_holds : yX1_holds.cls = RX1 ∧ yX1_holds.cls ≠ "java/lang/invoke/MethodHandle" ∧ yX1_holds.cls ≠ "java/lang/invoke/VarHandle" ∧ (parseMethodDescriptor yX1_holds.desc).map (fun d => d.parameters.length) = some 6 := by decide +kernel
theorem hd_X1_keep : yX1_keep.cls = RX1 ∧ yX1_keep.cls ≠ "java/lang/invoke/MethodHandle" ∧ yX1_keep.cls ≠ "java/lang/invoke/VarHandle" ∧ (parseMethodDescriptor yX1_keep.desc).map (fun d => d.parameters.length) = some 3 := by decide +kernel
theorem hd_X1_raise : yX1_raise.cls = RX1 ∧ yX1_raise.cls ≠ "java/lang/invoke/MethodHandle" ∧ yX1_raise.cls ≠ "java/lang/invoke/VarHandle" ∧ (parseMethodDescriptor yX1_raise.desc).map (fun d => d.parameters.length) = some 2 := by decide +kernel
theorem hd_X1_search : yX1_search.cls = RX1 ∧ yX1_search.cls ≠ "java/lang/invoke/MethodHandle" ∧ yX1_search.cls ≠ "java/lang/invoke/VarHandle" ∧ (parseMethodDescriptor yX1_search.desc).map (fun d => d.parameters.length) = some 3 := by decide +kernel
theorem hd_X1_survey : yX1_survey.cls = RX1 ∧ yX1_survey.cls ≠ "java/lang/invoke/MethodHandle" ∧ yX1_survey.cls ≠ "java/lang/invoke/VarHandle" ∧ (parseMethodDescriptor yX1_survey.desc).map (fun d => d.parameters.length) = some 1 := by decide +kernel
theorem hd_X2_record : yX2_record.cls = RX2 ∧ yX2_record.cls ≠ "java/lang/invoke/MethodHandle" ∧ yX2_record.cls ≠ "java/lang/invoke/VarHandle" ∧ (parseMethodDescriptor yX2_record.desc).map (fun d => d.parameters.length) = some 1 := by decide +kernel
theorem hd_X2_restore : yX2_restore.cls = RX2 ∧ yX2_restore.cls ≠ "java/lang/invoke/MethodHandle" ∧ yX2_restore.cls ≠ "java/lang/invoke/VarHandle" ∧ (parseMethodDescriptor yX2_restore.desc).map (fun d => d.parameters.length) = some 1 := by decide +kernel
theorem hd_X3_isBefore : yX3_isBefore.cls ≠ "java/lang/invoke/MethodHandle" ∧ yX3_isBefore.cls ≠ "java/lang/invoke/VarHandle" ∧ (parseMethodDescriptor yX3_isBefore.desc).map (fun d => d.parameters.length) = some 2 := by decide +kernel
theorem hd_X3_isTriedBetter : yX3_isTriedBetter.cls = RX3 ∧ yX3_isTriedBetter.cls ≠ "java/lang/invoke/MethodHandle" ∧ yX3_isTriedBetter.cls ≠ "java/lang/invoke/VarHandle" ∧ (parseMethodDescriptor yX3_isTriedBetter.desc).map (fun d => d.parameters.length) = some 0 := by decide +kernel
theorem hd_X3_letDownFrom : yX3_letDownFrom.cls = RX3 ∧ yX3_letDownFrom.cls ≠ "java/lang/invoke/MethodHandle" ∧ yX3_letDownFrom.cls ≠ "java/lang/invoke/VarHandle" ∧ (parseMethodDescriptor yX3_letDownFrom.desc).map (fun d => d.parameters.length) = some 2 := by decide +kernel
theorem hd_X3_measure : yX3_measure.cls = RX3 ∧ yX3_measure.cls ≠ "java/lang/invoke/MethodHandle" ∧ yX3_measure.cls ≠ "java/lang/invoke/VarHandle" ∧ (parseMethodDescriptor yX3_measure.desc).map (fun d => d.parameters.length) = some 1 := by decide +kernel
theorem hd_X3_packByBest : yX3_packByBest.cls = RX3 ∧ yX3_packByBest.cls ≠ "java/lang/invoke/MethodHandle" ∧ yX3_packByBest.cls ≠ "java/lang/invoke/VarHandle" ∧ (parseMethodDescriptor yX3_packByBest.desc).map (fun d => d.parameters.length) = some 1 := by decide +kernel
theorem hd_X3_packUsually : yX3_packUsually.cls = RX3 ∧ yX3_packUsually.cls ≠ "java/lang/invoke/MethodHandle" ∧ yX3_packUsually.cls ≠ "java/lang/invoke/VarHandle" ∧ (parseMethodDescriptor yX3_packUsually.desc).map (fun d => d.parameters.length) = some 1 := by decide +kernel
theorem hd_X3_stepToNextOrder : yX3_stepToNextOrder.cls = RX3 ∧ yX3_stepToNextOrder.cls ≠ "java/lang/invoke/MethodHandle" ∧ yX3_stepToNextOrder.cls ≠ "java/lang/invoke/VarHandle" ∧ (parseMethodDescriptor yX3_stepToNextOrder.desc).map (fun d => d.parameters.length) = some 0 := by decide +kernel
theorem hd_X3_swap : yX3_swap.cls = RX3 ∧ yX3_swap.cls ≠ "java/lang/invoke/MethodHandle" ∧ yX3_swap.cls ≠ "java/lang/invoke/VarHandle" ∧ (parseMethodDescriptor yX3_swap.desc).map (fun d => d.parameters.length) = some 2 := by decide +kernel
theorem hd_X4_append : yX4_append.cls = RX4 ∧ yX4_append.cls ≠ "java/lang/invoke/MethodHandle" ∧ yX4_append.cls ≠ "java/lang/invoke/VarHandle" ∧ (parseMethodDescriptor yX4_append.desc).map (fun d => d.parameters.length) = some 1 := by decide +kernel
theorem hd_X4_fail : yX4_fail.cls = RX4 ∧ yX4_fail.cls ≠ "java/lang/invoke/MethodHandle" ∧ yX4_fail.cls ≠ "java/lang/invoke/VarHandle" ∧ (parseMethodDescriptor yX4_fail.desc).map (fun d => d.parameters.length) = some 2 := by decide +kernel
theorem hd_X4_isDigit : yX4_isDigit.cls ≠ "java/lang/invoke/MethodHandle" ∧ yX4_isDigit.cls ≠ "java/lang/invoke/VarHandle" ∧ (parseMethodDescriptor yX4_isDigit.desc).map (fun d => d.parameters.length) = some 1 := by decide +kernel
theorem hd_X4_next : yX4_next.cls = RX4 ∧ yX4_next.cls ≠ "java/lang/invoke/MethodHandle" ∧ yX4_next.cls ≠ "java/lang/invoke/VarHandle" ∧ (parseMethodDescriptor yX4_next.desc).map (fun d => d.parameters.length) = some 0 := by decide +kernel
theorem hd_X4_read : yX4_read.cls = RX4 ∧ yX4_read.cls ≠ "java/lang/invoke/MethodHandle" ∧ yX4_read.cls ≠ "java/lang/invoke/VarHandle" ∧ (parseMethodDescriptor yX4_read.desc).map (fun d => d.parameters.length) = some 0 := by decide +kernel
theorem hd_X4_readLid : yX4_readLid.cls = RX4 ∧ yX4_readLid.cls ≠ "java/lang/invoke/MethodHandle" ∧ yX4_readLid.cls ≠ "java/lang/invoke/VarHandle" ∧ (parseMethodDescriptor yX4_readLid.desc).map (fun d => d.parameters.length) = some 1 := by decide +kernel
theorem hd_X4_readNumber : yX4_readNumber.cls = RX4 ∧ yX4_readNumber.cls ≠ "java/lang/invoke/MethodHandle" ∧ yX4_readNumber.cls ≠ "java/lang/invoke/VarHandle" ∧ (parseMethodDescriptor yX4_readNumber.desc).map (fun d => d.parameters.length) = some 1 := by decide +kernel
theorem hd_X4_readSign : yX4_readSign.cls = RX4 ∧ yX4_readSign.cls ≠ "java/lang/invoke/MethodHandle" ∧ yX4_readSign.cls ≠ "java/lang/invoke/VarHandle" ∧ (parseMethodDescriptor yX4_readSign.desc).map (fun d => d.parameters.length) = some 1 := by decide +kernel
theorem hd_X4_readTray : yX4_readTray.cls = RX4 ∧ yX4_readTray.cls ≠ "java/lang/invoke/MethodHandle" ∧ yX4_readTray.cls ≠ "java/lang/invoke/VarHandle" ∧ (parseMethodDescriptor yX4_readTray.desc).map (fun d => d.parameters.length) = some 0 := by decide +kernel
theorem hd_X4_readTurn : yX4_readTurn.cls = RX4 ∧ yX4_readTurn.cls ≠ "java/lang/invoke/MethodHandle" ∧ yX4_readTurn.cls ≠ "java/lang/invoke/VarHandle" ∧ (parseMethodDescriptor yX4_readTurn.desc).map (fun d => d.parameters.length) = some 1 := by decide +kernel
theorem hd_X5_alongX : yX5_alongX.cls = RX5 ∧ yX5_alongX.cls ≠ "java/lang/invoke/MethodHandle" ∧ yX5_alongX.cls ≠ "java/lang/invoke/VarHandle" ∧ (parseMethodDescriptor yX5_alongX.desc).map (fun d => d.parameters.length) = some 1 := by decide +kernel
theorem hd_X5_alongY : yX5_alongY.cls = RX5 ∧ yX5_alongY.cls ≠ "java/lang/invoke/MethodHandle" ∧ yX5_alongY.cls ≠ "java/lang/invoke/VarHandle" ∧ (parseMethodDescriptor yX5_alongY.desc).map (fun d => d.parameters.length) = some 1 := by decide +kernel
theorem hd_X5_area : yX5_area.cls = RX5 ∧ yX5_area.cls ≠ "java/lang/invoke/MethodHandle" ∧ yX5_area.cls ≠ "java/lang/invoke/VarHandle" ∧ (parseMethodDescriptor yX5_area.desc).map (fun d => d.parameters.length) = some 0 := by decide +kernel
theorem hd_X5_become : yX5_become.cls = RX5 ∧ yX5_become.cls ≠ "java/lang/invoke/MethodHandle" ∧ yX5_become.cls ≠ "java/lang/invoke/VarHandle" ∧ (parseMethodDescriptor yX5_become.desc).map (fun d => d.parameters.length) = some 4 := by decide +kernel
theorem hd_X5_copyFrom : yX5_copyFrom.cls = RX5 ∧ yX5_copyFrom.cls ≠ "java/lang/invoke/MethodHandle" ∧ yX5_copyFrom.cls ≠ "java/lang/invoke/VarHandle" ∧ (parseMethodDescriptor yX5_copyFrom.desc).map (fun d => d.parameters.length) = some 1 := by decide +kernel
theorem hd_X5_covers : yX5_covers.cls = RX5 ∧ yX5_covers.cls ≠ "java/lang/invoke/MethodHandle" ∧ yX5_covers.cls ≠ "java/lang/invoke/VarHandle" ∧ (parseMethodDescriptor yX5_covers.desc).map (fun d => d.parameters.length) = some 2 := by decide +kernel
theorem hd_X5_leave : yX5_leave.cls = RX5 ∧ yX5_leave.cls ≠ "java/lang/invoke/MethodHandle" ∧ yX5_leave.cls ≠ "java/lang/invoke/VarHandle" ∧ (parseMethodDescriptor yX5_leave.desc).map (fun d => d.parameters.length) = some 0 := by decide +kernel
theorem hd_X5_lie : yX5_lie.cls = RX5 ∧ yX5_lie.cls ≠ "java/lang/invoke/MethodHandle" ∧ yX5_lie.cls ≠ "java/lang/invoke/VarHandle" ∧ (parseMethodDescriptor yX5_lie.desc).map (fun d => d.parameters.length) = some 5 := by decide +kernel
theorem hd_X5_liesOn : yX5_liesOn.cls = RX5 ∧ yX5_liesOn.cls ≠ "java/lang/invoke/MethodHandle" ∧ yX5_liesOn.cls ≠ "java/lang/invoke/VarHandle" ∧ (parseMethodDescriptor yX5_liesOn.desc).map (fun d => d.parameters.length) = some 1 := by decide +kernel
theorem hd_X5_property : yX5_property.cls = RX5 ∧ yX5_property.cls ≠ "java/lang/invoke/MethodHandle" ∧ yX5_property.cls ≠ "java/lang/invoke/VarHandle" ∧ (parseMethodDescriptor yX5_property.desc).map (fun d => d.parameters.length) = some 1 := by decide +kernel
theorem hd_X5_tall : yX5_tall.cls = RX5 ∧ yX5_tall.cls ≠ "java/lang/invoke/MethodHandle" ∧ yX5_tall.cls ≠ "java/lang/invoke/VarHandle" ∧ (parseMethodDescriptor yX5_tall.desc).map (fun d => d.parameters.length) = some 0 := by decide +kernel
theorem hd_X6_count : yX6_count.cls = RX6 ∧ yX6_count.cls ≠ "java/lang/invoke/MethodHandle" ∧ yX6_count.cls ≠ "java/lang/invoke/VarHandle" ∧ (parseMethodDescriptor yX6_count.desc).map (fun d => d.parameters.length) = some 1 := by decide +kernel
theorem hd_X6_isWithin : yX6_isWithin.cls ≠ "java/lang/invoke/MethodHandle" ∧ yX6_isWithin.cls ≠ "java/lang/invoke/VarHandle" ∧ (parseMethodDescriptor yX6_isWithin.desc).map (fun d => d.parameters.length) = some 3 := by decide +kernel
theorem hd_X6_liftsTo : yX6_liftsTo.cls = RX6 ∧ yX6_liftsTo.cls ≠ "java/lang/invoke/MethodHandle" ∧ yX6_liftsTo.cls ≠ "java/lang/invoke/VarHandle" ∧ (parseMethodDescriptor yX6_liftsTo.desc).map (fun d => d.parameters.length) = some 1 := by decide +kernel
theorem hd_X6_place : yX6_place.cls = RX6 ∧ yX6_place.cls ≠ "java/lang/invoke/MethodHandle" ∧ yX6_place.cls ≠ "java/lang/invoke/VarHandle" ∧ (parseMethodDescriptor yX6_place.desc).map (fun d => d.parameters.length) = some 2 := by decide +kernel
theorem hd_X6_placedProperty : yX6_placedProperty.cls = RX6 ∧ yX6_placedProperty.cls ≠ "java/lang/invoke/MethodHandle" ∧ yX6_placedProperty.cls ≠ "java/lang/invoke/VarHandle" ∧ (parseMethodDescriptor yX6_placedProperty.desc).map (fun d => d.parameters.length) = some 2 := by decide +kernel
theorem hd_X6_seen : yX6_seen.cls = RX6 ∧ yX6_seen.cls ≠ "java/lang/invoke/MethodHandle" ∧ yX6_seen.cls ≠ "java/lang/invoke/VarHandle" ∧ (parseMethodDescriptor yX6_seen.desc).map (fun d => d.parameters.length) = some 3 := by decide +kernel
theorem hd_X6_takeOverPacked : yX6_takeOverPacked.cls = RX6 ∧ yX6_takeOverPacked.cls ≠ "java/lang/invoke/MethodHandle" ∧ yX6_takeOverPacked.cls ≠ "java/lang/invoke/VarHandle" ∧ (parseMethodDescriptor yX6_takeOverPacked.desc).map (fun d => d.parameters.length) = some 0 := by decide +kernel
theorem hd_X6_tray : yX6_tray.cls = RX6 ∧ yX6_tray.cls ≠ "java/lang/invoke/MethodHandle" ∧ yX6_tray.cls ≠ "java/lang/invoke/VarHandle" ∧ (parseMethodDescriptor yX6_tray.desc).map (fun d => d.parameters.length) = some 2 := by decide +kernel
theorem hd_X7_above : yX7_above.cls = RX7 ∧ yX7_above.cls ≠ "java/lang/invoke/MethodHandle" ∧ yX7_above.cls ≠ "java/lang/invoke/VarHandle" ∧ (parseMethodDescriptor yX7_above.desc).map (fun d => d.parameters.length) = some 1 := by decide +kernel
theorem hd_X7_air : yX7_air.cls = RX7 ∧ yX7_air.cls ≠ "java/lang/invoke/MethodHandle" ∧ yX7_air.cls ≠ "java/lang/invoke/VarHandle" ∧ (parseMethodDescriptor yX7_air.desc).map (fun d => d.parameters.length) = some 0 := by decide +kernel
theorem hd_X7_along : yX7_along.cls = RX7 ∧ yX7_along.cls ≠ "java/lang/invoke/MethodHandle" ∧ yX7_along.cls ≠ "java/lang/invoke/VarHandle" ∧ (parseMethodDescriptor yX7_along.desc).map (fun d => d.parameters.length) = some 3 := by decide +kernel
theorem hd_X7_boxHeight : yX7_boxHeight.cls = RX7 ∧ yX7_boxHeight.cls ≠ "java/lang/invoke/MethodHandle" ∧ yX7_boxHeight.cls ≠ "java/lang/invoke/VarHandle" ∧ (parseMethodDescriptor yX7_boxHeight.desc).map (fun d => d.parameters.length) = some 0 := by decide +kernel
theorem hd_X7_can : yX7_can.cls = RX7 ∧ yX7_can.cls ≠ "java/lang/invoke/MethodHandle" ∧ yX7_can.cls ≠ "java/lang/invoke/VarHandle" ∧ (parseMethodDescriptor yX7_can.desc).map (fun d => d.parameters.length) = some 4 := by decide +kernel
theorem hd_X7_comes : yX7_comes.cls = RX7 ∧ yX7_comes.cls ≠ "java/lang/invoke/MethodHandle" ∧ yX7_comes.cls ≠ "java/lang/invoke/VarHandle" ∧ (parseMethodDescriptor yX7_comes.desc).map (fun d => d.parameters.length) = some 4 := by decide +kernel
theorem hd_X7_comesTo : yX7_comesTo.cls = RX7 ∧ yX7_comesTo.cls ≠ "java/lang/invoke/MethodHandle" ∧ yX7_comesTo.cls ≠ "java/lang/invoke/VarHandle" ∧ (parseMethodDescriptor yX7_comesTo.desc).map (fun d => d.parameters.length) = some 1 := by decide +kernel
theorem hd_X7_copies : yX7_copies.cls = RX7 ∧ yX7_copies.cls ≠ "java/lang/invoke/MethodHandle" ∧ yX7_copies.cls ≠ "java/lang/invoke/VarHandle" ∧ (parseMethodDescriptor yX7_copies.desc).map (fun d => d.parameters.length) = some 2 := by decide +kernel
theorem hd_X7_count : yX7_count.cls = RX7 ∧ yX7_count.cls ≠ "java/lang/invoke/MethodHandle" ∧ yX7_count.cls ≠ "java/lang/invoke/VarHandle" ∧ (parseMethodDescriptor yX7_count.desc).map (fun d => d.parameters.length) = some 1 := by decide +kernel
theorem hd_X7_covers : yX7_covers.cls = RX7 ∧ yX7_covers.cls ≠ "java/lang/invoke/MethodHandle" ∧ yX7_covers.cls ≠ "java/lang/invoke/VarHandle" ∧ (parseMethodDescriptor yX7_covers.desc).map (fun d => d.parameters.length) = some 3 := by decide +kernel
theorem hd_X7_empties : yX7_empties.cls = RX7 ∧ yX7_empties.cls ≠ "java/lang/invoke/MethodHandle" ∧ yX7_empties.cls ≠ "java/lang/invoke/VarHandle" ∧ (parseMethodDescriptor yX7_empties.desc).map (fun d => d.parameters.length) = some 0 := by decide +kernel
theorem hd_X7_fails : yX7_fails.cls = RX7 ∧ yX7_fails.cls ≠ "java/lang/invoke/MethodHandle" ∧ yX7_fails.cls ≠ "java/lang/invoke/VarHandle" ∧ (parseMethodDescriptor yX7_fails.desc).map (fun d => d.parameters.length) = some 2 := by decide +kernel
theorem hd_X7_fault : yX7_fault.cls = RX7 ∧ yX7_fault.cls ≠ "java/lang/invoke/MethodHandle" ∧ yX7_fault.cls ≠ "java/lang/invoke/VarHandle" ∧ (parseMethodDescriptor yX7_fault.desc).map (fun d => d.parameters.length) = some 1 := by decide +kernel
theorem hd_X7_faults : yX7_faults.cls = RX7 ∧ yX7_faults.cls ≠ "java/lang/invoke/MethodHandle" ∧ yX7_faults.cls ≠ "java/lang/invoke/VarHandle" ∧ (parseMethodDescriptor yX7_faults.desc).map (fun d => d.parameters.length) = some 0 := by decide +kernel
theorem hd_X7_finds : yX7_finds.cls = RX7 ∧ yX7_finds.cls ≠ "java/lang/invoke/MethodHandle" ∧ yX7_finds.cls ≠ "java/lang/invoke/VarHandle" ∧ (parseMethodDescriptor yX7_finds.desc).map (fun d => d.parameters.length) = some 1 := by decide +kernel
theorem hd_X7_frees : yX7_frees.cls = RX7 ∧ yX7_frees.cls ≠ "java/lang/invoke/MethodHandle" ∧ yX7_frees.cls ≠ "java/lang/invoke/VarHandle" ∧ (parseMethodDescriptor yX7_frees.desc).map (fun d => d.parameters.length) = some 0 := by decide +kernel
theorem hd_X7_gets : yX7_gets.cls = RX7 ∧ yX7_gets.cls ≠ "java/lang/invoke/MethodHandle" ∧ yX7_gets.cls ≠ "java/lang/invoke/VarHandle" ∧ (parseMethodDescriptor yX7_gets.desc).map (fun d => d.parameters.length) = some 1 := by decide +kernel
theorem hd_X7_here : yX7_here.cls = RX7 ∧ yX7_here.cls ≠ "java/lang/invoke/MethodHandle" ∧ yX7_here.cls ≠ "java/lang/invoke/VarHandle" ∧ (parseMethodDescriptor yX7_here.desc).map (fun d => d.parameters.length) = some 0 := by decide +kernel
theorem hd_X7_high : yX7_high.cls = RX7 ∧ yX7_high.cls ≠ "java/lang/invoke/MethodHandle" ∧ yX7_high.cls ≠ "java/lang/invoke/VarHandle" ∧ (parseMethodDescriptor yX7_high.desc).map (fun d => d.parameters.length) = some 1 := by decide +kernel
theorem hd_X7_ifPacked : yX7_ifPacked.cls = RX7 ∧ yX7_ifPacked.cls ≠ "java/lang/invoke/MethodHandle" ∧ yX7_ifPacked.cls ≠ "java/lang/invoke/VarHandle" ∧ (parseMethodDescriptor yX7_ifPacked.desc).map (fun d => d.parameters.length) = some 2 := by decide +kernel
theorem hd_X7_in : yX7_in.cls ≠ "java/lang/invoke/MethodHandle" ∧ yX7_in.cls ≠ "java/lang/invoke/VarHandle" ∧ (parseMethodDescriptor yX7_in.desc).map (fun d => d.parameters.length) = some 3 := by decide +kernel
theorem hd_X7_inBox : yX7_inBox.cls = RX7 ∧ yX7_inBox.cls ≠ "java/lang/invoke/MethodHandle" ∧ yX7_inBox.cls ≠ "java/lang/invoke/VarHandle" ∧ (parseMethodDescriptor yX7_inBox.desc).map (fun d => d.parameters.length) = some 0 := by decide +kernel
theorem hd_X7_isAhead : yX7_isAhead.cls = RX7 ∧ yX7_isAhead.cls ≠ "java/lang/invoke/MethodHandle" ∧ yX7_isAhead.cls ≠ "java/lang/invoke/VarHandle" ∧ (parseMethodDescriptor yX7_isAhead.desc).map (fun d => d.parameters.length) = some 2 := by decide +kernel
theorem hd_X7_isBetter : yX7_isBetter.cls = RX7 ∧ yX7_isBetter.cls ≠ "java/lang/invoke/MethodHandle" ∧ yX7_isBetter.cls ≠ "java/lang/invoke/VarHandle" ∧ (parseMethodDescriptor yX7_isBetter.desc).map (fun d => d.parameters.length) = some 0 := by decide +kernel
theorem hd_X7_isDigit : yX7_isDigit.cls = RX7 ∧ yX7_isDigit.cls ≠ "java/lang/invoke/MethodHandle" ∧ yX7_isDigit.cls ≠ "java/lang/invoke/VarHandle" ∧ (parseMethodDescriptor yX7_isDigit.desc).map (fun d => d.parameters.length) = some 0 := by decide +kernel
theorem hd_X7_isIn : yX7_isIn.cls = RX7 ∧ yX7_isIn.cls ≠ "java/lang/invoke/MethodHandle" ∧ yX7_isIn.cls ≠ "java/lang/invoke/VarHandle" ∧ (parseMethodDescriptor yX7_isIn.desc).map (fun d => d.parameters.length) = some 1 := by decide +kernel
theorem hd_X7_isInside : yX7_isInside.cls = RX7 ∧ yX7_isInside.cls ≠ "java/lang/invoke/MethodHandle" ∧ yX7_isInside.cls ≠ "java/lang/invoke/VarHandle" ∧ (parseMethodDescriptor yX7_isInside.desc).map (fun d => d.parameters.length) = some 4 := by decide +kernel
theorem hd_X7_isTray : yX7_isTray.cls = RX7 ∧ yX7_isTray.cls ≠ "java/lang/invoke/MethodHandle" ∧ yX7_isTray.cls ≠ "java/lang/invoke/VarHandle" ∧ (parseMethodDescriptor yX7_isTray.desc).map (fun d => d.parameters.length) = some 1 := by decide +kernel
theorem hd_X7_laysTops : yX7_laysTops.cls = RX7 ∧ yX7_laysTops.cls ≠ "java/lang/invoke/MethodHandle" ∧ yX7_laysTops.cls ≠ "java/lang/invoke/VarHandle" ∧ (parseMethodDescriptor yX7_laysTops.desc).map (fun d => d.parameters.length) = some 0 := by decide +kernel
theorem hd_X7_leaves : yX7_leaves.cls = RX7 ∧ yX7_leaves.cls ≠ "java/lang/invoke/MethodHandle" ∧ yX7_leaves.cls ≠ "java/lang/invoke/VarHandle" ∧ (parseMethodDescriptor yX7_leaves.desc).map (fun d => d.parameters.length) = some 1 := by decide +kernel
theorem hd_X7_liesOn : yX7_liesOn.cls = RX7 ∧ yX7_liesOn.cls ≠ "java/lang/invoke/MethodHandle" ∧ yX7_liesOn.cls ≠ "java/lang/invoke/VarHandle" ∧ (parseMethodDescriptor yX7_liesOn.desc).map (fun d => d.parameters.length) = some 2 := by decide +kernel
theorem hd_X7_lift : yX7_lift.cls = RX7 ∧ yX7_lift.cls ≠ "java/lang/invoke/MethodHandle" ∧ yX7_lift.cls ≠ "java/lang/invoke/VarHandle" ∧ (parseMethodDescriptor yX7_lift.desc).map (fun d => d.parameters.length) = some 1 := by decide +kernel
theorem hd_X7_lifts : yX7_lifts.cls = RX7 ∧ yX7_lifts.cls ≠ "java/lang/invoke/MethodHandle" ∧ yX7_lifts.cls ≠ "java/lang/invoke/VarHandle" ∧ (parseMethodDescriptor yX7_lifts.desc).map (fun d => d.parameters.length) = some 0 := by decide +kernel
theorem hd_X7_liftsTo : yX7_liftsTo.cls = RX7 ∧ yX7_liftsTo.cls ≠ "java/lang/invoke/MethodHandle" ∧ yX7_liftsTo.cls ≠ "java/lang/invoke/VarHandle" ∧ (parseMethodDescriptor yX7_liftsTo.desc).map (fun d => d.parameters.length) = some 1 := by decide +kernel
theorem hd_X7_looksAt : yX7_looksAt.cls = RX7 ∧ yX7_looksAt.cls ≠ "java/lang/invoke/MethodHandle" ∧ yX7_looksAt.cls ≠ "java/lang/invoke/VarHandle" ∧ (parseMethodDescriptor yX7_looksAt.desc).map (fun d => d.parameters.length) = some 4 := by decide +kernel
theorem hd_X7_meet : yX7_meet.cls = RX7 ∧ yX7_meet.cls ≠ "java/lang/invoke/MethodHandle" ∧ yX7_meet.cls ≠ "java/lang/invoke/VarHandle" ∧ (parseMethodDescriptor yX7_meet.desc).map (fun d => d.parameters.length) = some 2 := by decide +kernel
theorem hd_X7_mixes : yX7_mixes.cls = RX7 ∧ yX7_mixes.cls ≠ "java/lang/invoke/MethodHandle" ∧ yX7_mixes.cls ≠ "java/lang/invoke/VarHandle" ∧ (parseMethodDescriptor yX7_mixes.desc).map (fun d => d.parameters.length) = some 1 := by decide +kernel
theorem hd_X7_of : yX7_of.cls = RX7 ∧ yX7_of.cls ≠ "java/lang/invoke/MethodHandle" ∧ yX7_of.cls ≠ "java/lang/invoke/VarHandle" ∧ (parseMethodDescriptor yX7_of.desc).map (fun d => d.parameters.length) = some 2 := by decide +kernel
theorem hd_X7_ordersBest : yX7_ordersBest.cls = RX7 ∧ yX7_ordersBest.cls ≠ "java/lang/invoke/MethodHandle" ∧ yX7_ordersBest.cls ≠ "java/lang/invoke/VarHandle" ∧ (parseMethodDescriptor yX7_ordersBest.desc).map (fun d => d.parameters.length) = some 0 := by decide +kernel
theorem hd_X7_ordersNext : yX7_ordersNext.cls = RX7 ∧ yX7_ordersNext.cls ≠ "java/lang/invoke/MethodHandle" ∧ yX7_ordersNext.cls ≠ "java/lang/invoke/VarHandle" ∧ (parseMethodDescriptor yX7_ordersNext.desc).map (fun d => d.parameters.length) = some 0 := by decide +kernel
theorem hd_X7_ordersUsually : yX7_ordersUsually.cls = RX7 ∧ yX7_ordersUsually.cls ≠ "java/lang/invoke/MethodHandle" ∧ yX7_ordersUsually.cls ≠ "java/lang/invoke/VarHandle" ∧ (parseMethodDescriptor yX7_ordersUsually.desc).map (fun d => d.parameters.length) = some 0 := by decide +kernel
theorem hd_X7_packs : yX7_packs.cls = RX7 ∧ yX7_packs.cls ≠ "java/lang/invoke/MethodHandle" ∧ yX7_packs.cls ≠ "java/lang/invoke/VarHandle" ∧ (parseMethodDescriptor yX7_packs.desc).map (fun d => d.parameters.length) = some 0 := by decide +kernel
theorem hd_X7_place : yX7_place.cls = RX7 ∧ yX7_place.cls ≠ "java/lang/invoke/MethodHandle" ∧ yX7_place.cls ≠ "java/lang/invoke/VarHandle" ∧ (parseMethodDescriptor yX7_place.desc).map (fun d => d.parameters.length) = some 2 := by decide +kernel
theorem hd_X7_plays : yX7_plays.cls = RX7 ∧ yX7_plays.cls ≠ "java/lang/invoke/MethodHandle" ∧ yX7_plays.cls ≠ "java/lang/invoke/VarHandle" ∧ (parseMethodDescriptor yX7_plays.desc).map (fun d => d.parameters.length) = some 1 := by decide +kernel
theorem hd_X7_readsInto : yX7_readsInto.cls = RX7 ∧ yX7_readsInto.cls ≠ "java/lang/invoke/MethodHandle" ∧ yX7_readsInto.cls ≠ "java/lang/invoke/VarHandle" ∧ (parseMethodDescriptor yX7_readsInto.desc).map (fun d => d.parameters.length) = some 3 := by decide +kernel
theorem hd_X7_readsNumber : yX7_readsNumber.cls = RX7 ∧ yX7_readsNumber.cls ≠ "java/lang/invoke/MethodHandle" ∧ yX7_readsNumber.cls ≠ "java/lang/invoke/VarHandle" ∧ (parseMethodDescriptor yX7_readsNumber.desc).map (fun d => d.parameters.length) = some 3 := by decide +kernel
theorem hd_X7_readsTray : yX7_readsTray.cls = RX7 ∧ yX7_readsTray.cls ≠ "java/lang/invoke/MethodHandle" ∧ yX7_readsTray.cls ≠ "java/lang/invoke/VarHandle" ∧ (parseMethodDescriptor yX7_readsTray.desc).map (fun d => d.parameters.length) = some 0 := by decide +kernel
theorem hd_X7_records : yX7_records.cls = RX7 ∧ yX7_records.cls ≠ "java/lang/invoke/MethodHandle" ∧ yX7_records.cls ≠ "java/lang/invoke/VarHandle" ∧ (parseMethodDescriptor yX7_records.desc).map (fun d => d.parameters.length) = some 0 := by decide +kernel
theorem hd_X7_recordsKept : yX7_recordsKept.cls = RX7 ∧ yX7_recordsKept.cls ≠ "java/lang/invoke/MethodHandle" ∧ yX7_recordsKept.cls ≠ "java/lang/invoke/VarHandle" ∧ (parseMethodDescriptor yX7_recordsKept.desc).map (fun d => d.parameters.length) = some 1 := by decide +kernel
theorem hd_X7_rests : yX7_rests.cls = RX7 ∧ yX7_rests.cls ≠ "java/lang/invoke/MethodHandle" ∧ yX7_rests.cls ≠ "java/lang/invoke/VarHandle" ∧ (parseMethodDescriptor yX7_rests.desc).map (fun d => d.parameters.length) = some 1 := by decide +kernel
theorem hd_X7_seen : yX7_seen.cls = RX7 ∧ yX7_seen.cls ≠ "java/lang/invoke/MethodHandle" ∧ yX7_seen.cls ≠ "java/lang/invoke/VarHandle" ∧ (parseMethodDescriptor yX7_seen.desc).map (fun d => d.parameters.length) = some 3 := by decide +kernel
theorem hd_X7_sets : yX7_sets.cls = RX7 ∧ yX7_sets.cls ≠ "java/lang/invoke/MethodHandle" ∧ yX7_sets.cls ≠ "java/lang/invoke/VarHandle" ∧ (parseMethodDescriptor yX7_sets.desc).map (fun d => d.parameters.length) = some 3 := by decide +kernel
theorem hd_X7_spans : yX7_spans.cls = RX7 ∧ yX7_spans.cls ≠ "java/lang/invoke/MethodHandle" ∧ yX7_spans.cls ≠ "java/lang/invoke/VarHandle" ∧ (parseMethodDescriptor yX7_spans.desc).map (fun d => d.parameters.length) = some 2 := by decide +kernel
theorem hd_X7_swaps : yX7_swaps.cls = RX7 ∧ yX7_swaps.cls ≠ "java/lang/invoke/MethodHandle" ∧ yX7_swaps.cls ≠ "java/lang/invoke/VarHandle" ∧ (parseMethodDescriptor yX7_swaps.desc).map (fun d => d.parameters.length) = some 2 := by decide +kernel
theorem hd_X7_takes : yX7_takes.cls = RX7 ∧ yX7_takes.cls ≠ "java/lang/invoke/MethodHandle" ∧ yX7_takes.cls ≠ "java/lang/invoke/VarHandle" ∧ (parseMethodDescriptor yX7_takes.desc).map (fun d => d.parameters.length) = some 1 := by decide +kernel
theorem hd_X7_top : yX7_top.cls = RX7 ∧ yX7_top.cls ≠ "java/lang/invoke/MethodHandle" ∧ yX7_top.cls ≠ "java/lang/invoke/VarHandle" ∧ (parseMethodDescriptor yX7_top.desc).map (fun d => d.parameters.length) = some 1 := by decide +kernel
theorem hd_X7_tray : yX7_tray.cls = RX7 ∧ yX7_tray.cls ≠ "java/lang/invoke/MethodHandle" ∧ yX7_tray.cls ≠ "java/lang/invoke/VarHandle" ∧ (parseMethodDescriptor yX7_tray.desc).map (fun d => d.parameters.length) = some 2 := by decide +kernel
theorem hd_X7_trays : yX7_trays.cls = RX7 ∧ yX7_trays.cls ≠ "java/lang/invoke/MethodHandle" ∧ yX7_trays.cls ≠ "java/lang/invoke/VarHandle" ∧ (parseMethodDescriptor yX7_trays.desc).map (fun d => d.parameters.length) = some 0 := by decide +kernel
end
section
/-! THE WORLD: N cells, a layout, and their contents as numbers: S -/
abbrev S : Type := (Nat → Nat → Int32) × Int64
def up (s : S) (j k : Nat) (v : Int32) : S := (fun a b => if a = j ∧ b = k then v else s.1 a b, s.2)
def uh (s : S) (h : Int64) : S := (s.1, h)
theorem up_ne (s : S) (j k : Nat) (v : Int32) {a : Nat} (h : a ≠ j) : (up s j k v).1 a = s.1 a := by
  funext b
  simp [up, h]
/-- layout: a tag (0 int[], 1 char[], 2 Box[], 3 Tray[], c + 4 an object of class c), how many places, and what a place is (0 a number, 1 a long, c + 2 the cell c) -/
abbrev XL : Type := Nat → Nat × Nat × (Nat → Nat)
def xv (ad : Nat → Nat) (s : S) (j k : Nat) : Nat → Value
  | 0 => .int (s.1 j k)
  | 1 => .long s.2
  | c + 2 => .ref (ad c)
def xc (y : Nat → ClassId) (ad : Nat → Nat) (L : XL) (s : S) (j : Nat) : va_E :=
  if (L j).1 = 0 then .inl (y 0, (L j).2.1, .inl (s.1 j))
  else if (L j).1 = 1 then .inl (y 1, (L j).2.1, .inl (s.1 j))
  else if (L j).1 = 2 then .inl (y 2, (L j).2.1, .inr (.inr (.inr (.inr (fun i => some (ad ((L j).2.2 i)))))))
  else if (L j).1 = 3 then .inl (y 3, (L j).2.1, .inr (.inr (.inr (.inr (fun i => some (ad ((L j).2.2 i)))))))
  else .inr ((L j).1 - 4, (List.range (L j).2.1).map (fun k => xv ad s j k ((L j).2.2 k)))
def wx (y : Nat → ClassId) (ad : Nat → Nat) (L : XL) (N : Nat) (s : S) : va_W := (List.range N).map (fun j => (ad j, xc y ad L s j))
theorem wx_at {y : Nat → ClassId} {ad : Nat → Nat} {L : XL} {N : Nat} {s : S} {j : Nat} (h : j < N) : (wx y ad L N s)[j]? = some (ad j, xc y ad L s j) := by
  simp [wx, h]
theorem wx_get {y : Nat → ClassId} {ad : Nat → Nat} {L : XL} {N : Nat} {s : S} {j : Nat} {q : Nat × va_E} (h : (wx y ad L N s)[j]? = some q) : j < N ∧ q = (ad j, xc y ad L s j) := by
  have hl : j < N := by
    have := (List.getElem?_eq_some_iff.mp h).1
    simpa [wx] using this
  rw [wx_at hl] at h
  exact ⟨hl, (Option.some.inj h).symm⟩
theorem wx_set {y : Nat → ClassId} {ad : Nat → Nat} {L : XL} {N : Nat} {s s' : S} {j : Nat} (ho : ∀ i, i ≠ j → xc y ad L s' i = xc y ad L s i) : (wx y ad L N s).set j (ad j, xc y ad L s' j) = wx y ad L N s' := by
  apply List.ext_getElem?
  intro i
  by_cases hi : i = j
  · subst hi
    by_cases hl : i < N
    · rw [List.getElem?_set_self (by simpa [wx] using hl), wx_at hl]
    · rw [List.getElem?_eq_none (by simpa [wx] using Nat.le_of_not_lt hl), List.getElem?_eq_none (by simpa [wx] using Nat.le_of_not_lt hl)]
  · rw [List.getElem?_set_ne (Ne.symm hi)]
    by_cases hl : i < N
    · rw [wx_at hl, wx_at hl, ho i hi]
    · rw [List.getElem?_eq_none (by simpa [wx] using Nat.le_of_not_lt hl), List.getElem?_eq_none (by simpa [wx] using Nat.le_of_not_lt hl)]
theorem xc_up {y : Nat → ClassId} {ad : Nat → Nat} {L : XL} {s : S} {j k : Nat} {v : Int32} : ∀ i, i ≠ j → xc y ad L (up s j k v) i = xc y ad L s i := by
  intro i hi
  have h1 := up_ne s j k v hi
  have h2 : ∀ (a : Nat) (t : Nat), xv ad (up s j k v) i a t = xv ad s i a t := by
    intro a t
    match t with
    | 0 => simp [xv, h1]
    | 1 => simp [xv, up]
    | c + 2 => simp [xv]
  simp only [xc, h1, h2]
def XI (ad : Nat → Nat) (N : Nat) : Prop := ∀ i j, i < N → j < N → ad i = ad j → i = j
def XA (ad : Nat → Nat) (N : Nat) : Nat → Prop := fun q => ∃ j, j < N ∧ q = ad j
theorem xD {y : Nat → ClassId} {ad : Nat → Nat} {L : XL} {N : Nat} {s : S} (h : XI ad N) : va_D (XA ad N) (wx y ad L N s) := by
  refine ⟨fun i j p q hi hj hpq => ?_, fun k q hk => ?_⟩
  · obtain ⟨h1, rfl⟩ := wx_get hi
    obtain ⟨h2, rfl⟩ := wx_get hj
    exact h i j h1 h2 hpq
  · obtain ⟨h1, rfl⟩ := wx_get hk
    exact ⟨k, h1, rfl⟩
def xT (y : Nat → ClassId) : List (ClassId × FieldType) := [(y 0, .int), (y 1, .char), (y 2, .object "TrayBox$Box"), (y 3, .object "TrayBox$Tray")]
def xNest : Cond := .methodLinkNest RX4 78 yX6_isWithin "TrayBox"
def XK (D : va_G) (y : Nat → ClassId) (s : State) : Prop := va_K D vwCl (xT y) s ∧ va_Nw xNest s
theorem XK.warm {D : va_G} {y : Nat → ClassId} {s U : State} (h : XK D y s) (hW : s.WarmedH U.vm) : XK D y U := ⟨va_K.moved hW.alike h.1, va_Nw.warmM hW h.2⟩
theorem XK.calling {D : va_G} {y : Nat → ClassId} {U : State} {g : JFrame} {mk : MethodId} {a : Array Value} (h : XK D y U) : XK D y (U.calling g mk a) :=
  ⟨va_K.moved (u := U) (U := U.calling g mk a) (Vm.Alike.refl U.vm) h.1, va_Nw.same rfl (u := U) (U := U.calling g mk a) rfl h.2⟩
def XH (D : va_G) (y : Nat → ClassId) (ad : Nat → Nat) (L : XL) (N : Nat) (σ : S) (H0 H : Heap) (locs : List Loc) : Prop := va_P D vwCl (wx y ad L N σ) H ∧ va_S (XA ad N) H0 H locs
def XW (D : va_G) (y : Nat → ClassId) (ad : Nat → Nat) (L : XL) (N : Nat) (σ : S) (U : State) : Prop := va_P D vwCl (wx y ad L N σ) U.heap ∧ XK D y U
theorem xBlind {D : va_G} {y : Nat → ClassId} {ad : Nat → Nat} {L : XL} {N : Nat} {σ : S} {av : List Value} : FrameBlind (va_Pc av (XW D y ad L N σ)) := fun _ _ _ _ q => ⟨q.1, q.2.1, q.2.2.calling⟩
/-- what a method leaves: a number and a state; a long and a state; a state -/
def XQi (D : va_G) (y : Nat → ClassId) (ad : Nat → Nat) (L : XL) (N : Nat) (o : Int32 × S) : Array Value → State → Outcome → State → Prop := va_Qi (fun (r : Int32) (u : S) => (r, u) = o) (XW D y ad L N) (XA ad N)
def XQl (D : va_G) (y : Nat → ClassId) (ad : Nat → Nat) (L : XL) (N : Nat) (o : Int64 × S) : Array Value → State → Outcome → State → Prop := va_Ql (fun (r : Int64) (u : S) => (r, u) = o) (XW D y ad L N) (XA ad N)
def XQv (D : va_G) (y : Nat → ClassId) (ad : Nat → Nat) (L : XL) (N : Nat) (o : S) : Array Value → State → Outcome → State → Prop := va_Qv (fun (u : S) => u = o) (XW D y ad L N) (XA ad N)
def inb (i : Int32) (n : Nat) : Bool := decide (¬ (i < 0 ∨ n ≤ i.toNatClampNeg))
theorem inb_in {i : Int32} {n : Nat} (h : inb i n = true) : vp_in i n := by simpa [inb, vp_in] using h
theorem inb_lt {i : Int32} {n : Nat} (h : inb i n = true) : i.toNatClampNeg < n := Nat.not_le.mp fun q => inb_in h (Or.inr q)
def isb (v : Int32) : Bool := v == 0 || v == 1
theorem isb_narrow {v : Int32} (h : isb v = true) : narrow .boolean (.int v) = .int v := by
  simp only [isb, Bool.or_eq_true, beq_iff_eq] at h
  rcases h with rfl | rfl <;> rfl
theorem isb_fits {v : Int32} (h : isb v = true) : fits .boolean (.int v) = true := h
/-- a guard -/
def gd {α : Type} (b : Bool) (x : Option α) : Option α := if b = true then x else none
theorem gd_e {α : Type} {b : Bool} {x : Option α} {r : α} (h : gd b x = some r) : b = true ∧ x = some r := by
  unfold gd at h
  by_cases hb : b = true
  · rw [if_pos hb] at h
    exact ⟨hb, h⟩
  · rw [if_neg hb] at h
    cases h
/-- a name for a new state -/
def nm {α β : Type} (x : α) (k : α → β) : β := k x
theorem nm_f {α β : Type} {x : α} {k : α → β} {r : β} (h : nm x k = r) : ∃ z, z = x ∧ k z = r := ⟨x, rfl, h⟩
/-- a loop, n rounds at most -/
def lp {α β : Type} (step : α → Option (β ⊕ α)) : Nat → α → Option β
  | 0, _ => none
  | n + 1, a => (step a).bind (Sum.elim some (lp step n))
def FU : Nat := 2000
theorem bd_e {α β : Type} {o : Option α} {k : α → Option β} {r : β} (h : o.bind k = some r) : ∃ a, o = some a ∧ k a = some r := Option.bind_eq_some_iff.mp h
theorem W_loop {α β : Type} {step : α → Option (β ⊕ α)} {G : α → Prop} {E : β → Prop} (hs : ∀ a r, step a = some r → (∀ b, r = .inl b → E b) → (∀ a', r = .inr a' → G a') → G a) : ∀ (n : Nat) (a : α) (b : β), lp step n a = some b → E b → G a := by
  intro n
  induction n with
  | zero => intro a b h; cases h
  | succ n ih =>
    intro a b h hE
    obtain ⟨r, h1, h2⟩ := bd_e (h : (step a).bind _ = some b)
    refine hs a r h1 (fun b' hb => ?_) (fun a' ha => ?_)
    · subst hb
      cases (Option.some.inj h2 : b' = b)
      exact hE
    · subst ha
      exact ih a' b h2 hE
section XR
variable {p : Program} {l : Launch} {e : Env} {R : Room} {s : State} {m : MethodId} {args : Array Value} {below : List Frame} {meth : Method} {c : Code} {H : Heap} {locs : List Loc} {cells slots : Nat} {Q : State → Prop}
variable {cc : ByteArray} {nL pc : Nat} {own : String} {ls : Array Slot} {rest : List Value} {D : va_G} {y : Nat → ClassId} {ad : Nat → Nat} {L : XL} {N : Nat} {σ : S}
theorem x_get (C0 : CallFix p m c cc nL s args lwT own) (hK : XK D y s) (hw : XH D y ad L N σ s.heap H locs) {ref C : String} {T : u_T} {j ci n index : Nat} {r : Nat → Nat} (hj : j < N) (hL : L j = (ci + 4, n, r)) (hc : vwCl[ci]? = some (C, T, n)) (hin : ∀ w ∈ u_ws C T n, w ∈ lwT) (k : Nat) (hk : k < n) (hlink : Cond.fieldLink own index ref (T k).2.1 (T k).2.2.1 ∈ lwT) (hsame : (T k).1 = ref) {v : Value} (hv : xv ad σ j k (r k) = v) (hdg : decode cc pc = .ok (.getfield index, 3))
    (kk : W p l e R s m args below meth c H locs cells slots Q (F0 m (pc + 3) ls (v :: rest))) : W p l e R s m args below meth c H locs cells slots Q (F0 m pc ls (.ref (ad j) :: rest)) := by
  have he : (wx y ad L N σ)[j]? = some (ad j, .inr (ci, (List.range n).map (fun k => xv ad σ j k (r k)))) := by
    rw [wx_at hj]
    simp [xc, hL]
  exact va_get C0.1 C0.2.1 C0.2.2.2.2 hin C0.2.2.2.1 hK.1 hw.1 j he hc k hk (C0.2.2.2.2 _ hlink) (fun x h => hsame ▸ h) (by simp [hk, hv]) hdg kk
theorem x_put (hI : XI ad N) (C0 : CallFix p m c cc nL s args lwT own) (hK : XK D y s) (hw : XH D y ad L N σ s.heap H locs) {ref C : String} {T : u_T} {j ci n index : Nat} {r : Nat → Nat} (hj : j < N) (hL : L j = (ci + 4, n, r)) (hc : vwCl[ci]? = some (C, T, n)) (hin : ∀ w ∈ u_ws C T n, w ∈ lwT) {ty0 : Nat → FieldType} (hty : ∀ k, k < n → parseFieldDescriptor (T k).2.2.1 = some (ty0 k)) (hnm : ∀ a, a < n → ∀ b, b < n → a ≠ b → (T a).2.1 ≠ (T b).2.1) (k : Nat) (hk : k < n) (hlink : Cond.fieldLink own index ref (T k).2.1 (T k).2.2.1 ∈ lwT) (hsame : (T k).1 = ref) (hfin : (T k).2.2.2 = false) (hr : r k = 0) {v : Int32} {σ' : S} (es : σ' = up σ j k v) (hn : narrow (ty0 k) (.int v) = .int v) (hfit : fits (ty0 k) (.int v) = true) (hdg : decode cc pc = .ok (.putfield index, 3))
    (kk : ∀ (H1 : Heap) (locs1 : List Loc), XH D y ad L N σ' s.heap H1 locs1 → W p l e R s m args below meth c H1 locs1 cells slots Q (F0 m (pc + 3) ls rest)) : W p l e R s m args below meth c H locs cells slots Q (F0 m pc ls (.int v :: .ref (ad j) :: rest)) := by
  have he : (wx y ad L N σ)[j]? = some (ad j, .inr (ci, (List.range n).map (fun k => xv ad σ j k (r k)))) := by
    rw [wx_at hj]
    simp [xc, hL]
  have hset : (wx y ad L N σ).set j (ad j, .inr (ci, ((List.range n).map (fun k => xv ad σ j k (r k))).set k (.int v))) = wx y ad L N σ' := by
    rw [es]
    rw [← wx_set (s := σ) (s' := up σ j k v) (j := j) xc_up]
    congr 2
    simp only [xc, hL]
    rw [if_neg (by omega), if_neg (by omega), if_neg (by omega), if_neg (by omega)]
    congr 2
    apply List.ext_getElem?
    intro i
    by_cases hi : i = k
    · subst hi
      rw [List.getElem?_set_self (by simpa using hk)]
      simp [hk, hr, xv, up]
    · rw [List.getElem?_set_ne (Ne.symm hi)]
      have hx : xv ad (up σ j k v) j i (r i) = xv ad σ j i (r i) := by
        match r i with
        | 0 => simp [xv, up, hi]
        | 1 => rfl
        | c + 2 => rfl
      by_cases hl : i < n
      · simp [hl, hx]
      · simp [hl]
  refine va_put C0.1 C0.2.1 C0.2.2.2.2 hin ty0 hty hnm C0.2.2.2.1 hK.1 hw.1 (xD hI) hw.2 j he hc k hk (C0.2.2.2.2 _ hlink) (fun x h => hsame ▸ h) hfin (hty k hk) hn hfit (by simpa using hk) hdg (fun H1 locs1 a1 _ a3 => kk H1 locs1 ⟨hset ▸ a1, a3⟩)
/-- the long of the world's one cell that has it -/
theorem x_putL (hI : XI ad N) (C0 : CallFix p m c cc nL s args lwT own) (hK : XK D y s) (hw : XH D y ad L N σ s.heap H locs) {ref C : String} {T : u_T} {j ci n index : Nat} {r : Nat → Nat} (hj : j < N) (hL : L j = (ci + 4, n, r)) (hc : vwCl[ci]? = some (C, T, n)) (hin : ∀ w ∈ u_ws C T n, w ∈ lwT) {ty0 : Nat → FieldType} (hty : ∀ k, k < n → parseFieldDescriptor (T k).2.2.1 = some (ty0 k)) (hnm : ∀ a, a < n → ∀ b, b < n → a ≠ b → (T a).2.1 ≠ (T b).2.1) (k : Nat) (hk : k < n) (hlink : Cond.fieldLink own index ref (T k).2.1 (T k).2.2.1 ∈ lwT) (hsame : (T k).1 = ref) (hfin : (T k).2.2.2 = false) (hr : r k = 1) (hone : ∀ i, i < n → r i = 1 → i = k) (hoth : ∀ i, i ≠ j → ∀ a, a < (L i).2.1 → (L i).2.2 a ≠ 1) {v : Int64} {σ' : S} (es : σ' = uh σ v) (hlong : ty0 k = .long) (hdg : decode cc pc = .ok (.putfield index, 3))
    (kk : ∀ (H1 : Heap) (locs1 : List Loc), XH D y ad L N σ' s.heap H1 locs1 → W p l e R s m args below meth c H1 locs1 cells slots Q (F0 m (pc + 3) ls rest)) : W p l e R s m args below meth c H locs cells slots Q (F0 m pc ls (.long v :: .ref (ad j) :: rest)) := by
  have he : (wx y ad L N σ)[j]? = some (ad j, .inr (ci, (List.range n).map (fun k => xv ad σ j k (r k)))) := by
    rw [wx_at hj]
    simp [xc, hL]
  have hset : (wx y ad L N σ).set j (ad j, .inr (ci, ((List.range n).map (fun k => xv ad σ j k (r k))).set k (.long v))) = wx y ad L N σ' := by
    rw [es]
    rw [← wx_set (s := σ) (s' := uh σ v) (j := j) (fun i hi => ?_)]
    · congr 2
      simp only [xc, hL]
      rw [if_neg (by omega), if_neg (by omega), if_neg (by omega), if_neg (by omega)]
      congr 2
      apply List.ext_getElem?
      intro i
      by_cases hi : i = k
      · subst hi
        rw [List.getElem?_set_self (by simpa using hk)]
        simp [hk, hr, xv, uh]
      · rw [List.getElem?_set_ne (Ne.symm hi)]
        by_cases hl : i < n
        · have h1 : r i ≠ 1 := fun h => hi (hone i hl h)
          have hx : xv ad (uh σ v) j i (r i) = xv ad σ j i (r i) := by
            match hri : r i with
            | 0 => rfl
            | 1 => exact absurd hri h1
            | c + 2 => rfl
          simp [hl, hx]
        · simp [hl]
    · simp only [xc]
      have hm : (List.range (L i).2.1).map (fun k => xv ad (uh σ v) i k ((L i).2.2 k)) = (List.range (L i).2.1).map (fun k => xv ad σ i k ((L i).2.2 k)) := by
        apply List.map_congr_left
        intro a ha
        have h1 := hoth i hi a (List.mem_range.mp ha)
        match hri : (L i).2.2 a with
        | 0 => rfl
        | 1 => exact absurd hri h1
        | c + 2 => rfl
      rw [hm]
      rfl
  have hd := hty k hk
  rw [hlong] at hd
  exact va_put C0.1 C0.2.1 C0.2.2.2.2 hin ty0 hty hnm C0.2.2.2.1 hK.1 hw.1 (xD hI) hw.2 j he hc k hk (C0.2.2.2.2 _ hlink) (fun x h => hsame ▸ h) hfin hd rfl rfl (by simpa using hk) hdg (fun H1 locs1 a1 _ a3 => kk H1 locs1 ⟨hset ▸ a1, a3⟩)
theorem x_arr0 {j n : Nat} {r : Nat → Nat} (hj : j < N) (hL : L j = (0, n, r)) : (wx y ad L N σ)[j]? = some (ad j, .inl (y 0, n, .inl (σ.1 j))) := by
  rw [wx_at hj]
  simp [xc, hL]
theorem x_arr1 {j n : Nat} {r : Nat → Nat} (hj : j < N) (hL : L j = (1, n, r)) : (wx y ad L N σ)[j]? = some (ad j, .inl (y 1, n, .inl (σ.1 j))) := by
  rw [wx_at hj]
  simp [xc, hL]
theorem x_arr2 {j n : Nat} {r : Nat → Nat} (hj : j < N) (hL : L j = (2, n, r)) : (wx y ad L N σ)[j]? = some (ad j, .inl (y 2, n, .inr (.inr (.inr (.inr (fun i => some (ad (r i)))))))) := by
  rw [wx_at hj]
  simp [xc, hL]
theorem x_arr3 {j n : Nat} {r : Nat → Nat} (hj : j < N) (hL : L j = (3, n, r)) : (wx y ad L N σ)[j]? = some (ad j, .inl (y 3, n, .inr (.inr (.inr (.inr (fun i => some (ad (r i)))))))) := by
  rw [wx_at hj]
  simp [xc, hL]
theorem x_iald (C0 : CallFix p m c cc nL s args lwT own) (hK : XK D y s) (hw : XH D y ad L N σ s.heap H locs) {j n : Nat} {r : Nat → Nat} (hj : j < N) (hL : L j = (0, n, r)) {i : Int32} (hi : inb i n = true) (hdg : decode cc pc = .ok (.iaload, 1))
    (kk : W p l e R s m args below meth c H locs cells slots Q (F0 m (pc + 1) ls (.int (σ.1 j i.toNatClampNeg) :: rest))) : W p l e R s m args below meth c H locs cells slots Q (F0 m pc ls (.int i :: .ref (ad j) :: rest)) :=
  va_iald C0.1 C0.2.1 hK.1 hw.1 j 0 (x_arr0 hj hL) rfl (inb_in hi) hdg kk
theorem x_cald (C0 : CallFix p m c cc nL s args lwT own) (hK : XK D y s) (hw : XH D y ad L N σ s.heap H locs) {j n : Nat} {r : Nat → Nat} (hj : j < N) (hL : L j = (1, n, r)) {i : Int32} (hi : inb i n = true) (hdg : decode cc pc = .ok (.caload, 1))
    (kk : W p l e R s m args below meth c H locs cells slots Q (F0 m (pc + 1) ls (.int (σ.1 j i.toNatClampNeg) :: rest))) : W p l e R s m args below meth c H locs cells slots Q (F0 m pc ls (.int i :: .ref (ad j) :: rest)) :=
  va_cald C0.1 C0.2.1 hK.1 hw.1 j 1 (x_arr1 hj hL) rfl (inb_in hi) hdg kk
theorem x_upd {j n t : Nat} {r : Nat → Nat} {i : Nat} {v : Int32} {σ' : S} (ht : t < 2) (hL : L j = (t, n, r)) (es : σ' = up σ j i v) : (wx y ad L N σ).set j (ad j, .inl (y t, n, .inl (upd (σ.1 j) i v))) = wx y ad L N σ' := by
  rw [es]
  rw [← wx_set (s := σ) (s' := up σ j i v) (j := j) xc_up]
  congr 2
  have h1 : upd (σ.1 j) i v = (up σ j i v).1 j := by
    funext b
    simp [upd, up]
  rcases (show t = 0 ∨ t = 1 by omega) with rfl | rfl
  · simp [xc, hL, h1]
  · simp [xc, hL, h1]
theorem x_iast (hI : XI ad N) (C0 : CallFix p m c cc nL s args lwT own) (hK : XK D y s) (hw : XH D y ad L N σ s.heap H locs) {j n : Nat} {r : Nat → Nat} (hj : j < N) (hL : L j = (0, n, r)) {i v : Int32} (hi : inb i n = true) {σ' : S} (es : σ' = up σ j i.toNatClampNeg v) (hdg : decode cc pc = .ok (.iastore, 1))
    (kk : ∀ (H1 : Heap) (locs1 : List Loc), XH D y ad L N σ' s.heap H1 locs1 → W p l e R s m args below meth c H1 locs1 cells slots Q (F0 m (pc + 1) ls rest)) : W p l e R s m args below meth c H locs cells slots Q (F0 m pc ls (.int v :: .int i :: .ref (ad j) :: rest)) :=
  va_iast C0.1 C0.2.1 hK.1 hw.1 (xD hI) hw.2 j 0 (x_arr0 hj hL) rfl (inb_in hi) hdg (fun H1 locs1 a1 _ a3 => kk H1 locs1 ⟨x_upd (by omega) hL es ▸ a1, a3⟩)
theorem x_cast (hI : XI ad N) (C0 : CallFix p m c cc nL s args lwT own) (hK : XK D y s) (hw : XH D y ad L N σ s.heap H locs) {j n : Nat} {r : Nat → Nat} (hj : j < N) (hL : L j = (1, n, r)) {i v : Int32} (hi : inb i n = true) {σ' : S} (es : σ' = up σ j i.toNatClampNeg (vp_nar .char v)) (hdg : decode cc pc = .ok (.castore, 1))
    (kk : ∀ (H1 : Heap) (locs1 : List Loc), XH D y ad L N σ' s.heap H1 locs1 → W p l e R s m args below meth c H1 locs1 cells slots Q (F0 m (pc + 1) ls rest)) : W p l e R s m args below meth c H locs cells slots Q (F0 m pc ls (.int v :: .int i :: .ref (ad j) :: rest)) :=
  va_cast C0.1 C0.2.1 hK.1 hw.1 (xD hI) hw.2 j 1 (x_arr1 hj hL) rfl (inb_in hi) hdg (fun H1 locs1 a1 _ a3 => kk H1 locs1 ⟨x_upd (by omega) hL es ▸ a1, a3⟩)
theorem x_aldB (C0 : CallFix p m c cc nL s args lwT own) (hK : XK D y s) (hw : XH D y ad L N σ s.heap H locs) {j n : Nat} {r : Nat → Nat} (hj : j < N) (hL : L j = (2, n, r)) {i : Int32} (hi : inb i n = true) {t : Nat} (ht : r i.toNatClampNeg = t) (hdg : decode cc pc = .ok (.aaload, 1))
    (kk : W p l e R s m args below meth c H locs cells slots Q (F0 m (pc + 1) ls (.ref (ad t) :: rest))) : W p l e R s m args below meth c H locs cells slots Q (F0 m pc ls (.int i :: .ref (ad j) :: rest)) := by
  subst ht
  exact va_aldq C0.1 C0.2.1 hK.1 hw.1 j 2 (x_arr2 hj hL) rfl (inb_in hi) hdg kk
theorem x_aldT (C0 : CallFix p m c cc nL s args lwT own) (hK : XK D y s) (hw : XH D y ad L N σ s.heap H locs) {j n : Nat} {r : Nat → Nat} (hj : j < N) (hL : L j = (3, n, r)) {i : Int32} (hi : inb i n = true) {t : Nat} (ht : r i.toNatClampNeg = t) (hdg : decode cc pc = .ok (.aaload, 1))
    (kk : W p l e R s m args below meth c H locs cells slots Q (F0 m (pc + 1) ls (.ref (ad t) :: rest))) : W p l e R s m args below meth c H locs cells slots Q (F0 m pc ls (.int i :: .ref (ad j) :: rest)) := by
  subst ht
  exact va_aldq C0.1 C0.2.1 hK.1 hw.1 j 3 (x_arr3 hj hL) rfl (inb_in hi) hdg kk
theorem x_alen0 (C0 : CallFix p m c cc nL s args lwT own) (hK : XK D y s) (hw : XH D y ad L N σ s.heap H locs) {j n : Nat} {r : Nat → Nat} (hj : j < N) (hL : L j = (0, n, r)) {v : Int32} (hv : Int32.ofNat n = v) (hdg : decode cc pc = .ok (.arraylength, 1))
    (kk : W p l e R s m args below meth c H locs cells slots Q (F0 m (pc + 1) ls (.int v :: rest))) : W p l e R s m args below meth c H locs cells slots Q (F0 m pc ls (.ref (ad j) :: rest)) :=
  va_alen C0.1 C0.2.1 hK.1 hw.1 j 0 (x_arr0 hj hL) rfl hv hdg kk
/-! ends -/
theorem x_iret (C0 : CallFix p m c cc nL s args lwT own) (hK : XK D y s) (hlocks : meth.locks = false) (hr : meth.sig.returnType = some .int) (hw : XH D y ad L N σ s.heap H locs) {v : Int32} {o : Int32 × S} (ho : (v, σ) = o) (hdg : decode cc pc = .ok (.ireturn, 1)) : W p l e R s m args below meth c H locs 0 0 (MQ below (XQi D y ad L N o) args s 0 0 (XA ad N)) (F0 m pc ls [.int v]) :=
  W.iret (v := v) C0.1 C0.2.1 hr (fun t ht hW => ⟨⟨v, σ, rfl, ho, by rw [ht]; exact hw.1, hK.warm hW⟩, hw.2.F ht⟩) hw.2.2.2 hdg
theorem x_zret (C0 : CallFix p m c cc nL s args lwT own) (hK : XK D y s) (hlocks : meth.locks = false) (hr : meth.sig.returnType = some .boolean) (hw : XH D y ad L N σ s.heap H locs) {v : Int32} {o : Int32 × S} (hb : isb v = true) (ho : (v, σ) = o) (hdg : decode cc pc = .ok (.ireturn, 1)) : W p l e R s m args below meth c H locs 0 0 (MQ below (XQi D y ad L N o) args s 0 0 (XA ad N)) (F0 m pc ls [.int v]) :=
  W.zret (v := v) C0.1 C0.2.1 hr (isb_narrow hb) (fun t ht hW => ⟨⟨v, σ, rfl, ho, by rw [ht]; exact hw.1, hK.warm hW⟩, hw.2.F ht⟩) hw.2.2.2 hdg
theorem x_cret (C0 : CallFix p m c cc nL s args lwT own) (hK : XK D y s) (hlocks : meth.locks = false) (hr : meth.sig.returnType = some .char) (hw : XH D y ad L N σ s.heap H locs) {v : Int32} {o : Int32 × S} (hb : (vp_nar .char v == v) = true) (ho : (v, σ) = o) (hdg : decode cc pc = .ok (.ireturn, 1)) : W p l e R s m args below meth c H locs 0 0 (MQ below (XQi D y ad L N o) args s 0 0 (XA ad N)) (F0 m pc ls [.int v]) :=
  W.zret (v := v) C0.1 C0.2.1 hr (by have h := eq_of_beq hb; exact congrArg Value.int h) (fun t ht hW => ⟨⟨v, σ, rfl, ho, by rw [ht]; exact hw.1, hK.warm hW⟩, hw.2.F ht⟩) hw.2.2.2 hdg
theorem x_lret (C0 : CallFix p m c cc nL s args lwT own) (hK : XK D y s) (hlocks : meth.locks = false) (hr : meth.sig.returnType = some .long) (hw : XH D y ad L N σ s.heap H locs) {v : Int64} {o : Int64 × S} (ho : (v, σ) = o) (hdg : decode cc pc = .ok (.lreturn, 1)) : W p l e R s m args below meth c H locs 0 0 (MQ below (XQl D y ad L N o) args s 0 0 (XA ad N)) (F0 m pc ls [.long v]) :=
  W.lret (v := v) C0.1 C0.2.1 hr (fun t ht hW => ⟨⟨v, σ, rfl, ho, by rw [ht]; exact hw.1, hK.warm hW⟩, hw.2.F ht⟩) hw.2.2.2 hdg
theorem x_vret (C0 : CallFix p m c cc nL s args lwT own) (hK : XK D y s) (hlocks : meth.locks = false) (hr : meth.sig.returnType = none) (hw : XH D y ad L N σ s.heap H locs) {o : S} (ho : σ = o) (hdg : decode cc pc = .ok (.return_, 1)) : W p l e R s m args below meth c H locs 0 0 (MQ below (XQv D y ad L N o) args s 0 0 (XA ad N)) (F0 m pc ls []) :=
  W.vret C0.1 C0.2.1 hr (fun t ht hW => ⟨⟨σ, rfl, ho, by rw [ht]; exact hw.1, hK.warm hW⟩, hw.2.F ht⟩) hw.2.2.2 hdg
/-! calls -/
theorem x_back (hw : XH D y ad L N σ s.heap H locs) {st0 : List Value} {a : Array Value} {o : Int32 × S} (hr : va_Run p l e R s m args below meth c H locs cells slots 0 0 (F0 m pc ls st0) rest (XQi D y ad L N o a) (XA ad N))
    (kk : ∀ (H1 : Heap) (locs1 : List Loc), XH D y ad L N o.2 s.heap H1 locs1 → W p l e R s m args below meth c H1 locs1 cells slots Q (F0 m (pc + 3) ls (.int o.1 :: rest))) : W p l e R s m args below meth c H locs cells slots Q (F0 m pc ls st0) :=
  va_calli hr hw.2 (fun _ _ h => h) (fun _ h => h) (fun r u t H1 locs1 ht _ hp hB _ _ hS => by
    subst hp
    exact kk H1 locs1 ⟨ht ▸ hB.1, hS⟩)
theorem x_backl (hw : XH D y ad L N σ s.heap H locs) {st0 : List Value} {a : Array Value} {o : Int64 × S} (hr : va_Run p l e R s m args below meth c H locs cells slots 0 0 (F0 m pc ls st0) rest (XQl D y ad L N o a) (XA ad N))
    (kk : ∀ (H1 : Heap) (locs1 : List Loc), XH D y ad L N o.2 s.heap H1 locs1 → W p l e R s m args below meth c H1 locs1 cells slots Q (F0 m (pc + 3) ls (.long o.1 :: rest))) : W p l e R s m args below meth c H locs cells slots Q (F0 m pc ls st0) :=
  va_calll hr hw.2 (fun _ _ h => h) (fun _ h => h) (fun r u t H1 locs1 ht _ hp hB _ _ hS => by
    subst hp
    exact kk H1 locs1 ⟨ht ▸ hB.1, hS⟩)
theorem x_backv (hw : XH D y ad L N σ s.heap H locs) {st0 : List Value} {a : Array Value} {o : S} (hr : va_Run p l e R s m args below meth c H locs cells slots 0 0 (F0 m pc ls st0) rest (XQv D y ad L N o a) (XA ad N))
    (kk : ∀ (H1 : Heap) (locs1 : List Loc), XH D y ad L N o s.heap H1 locs1 → W p l e R s m args below meth c H1 locs1 cells slots Q (F0 m (pc + 3) ls rest)) : W p l e R s m args below meth c H locs cells slots Q (F0 m pc ls st0) :=
  va_callv hr hw.2 (fun _ _ h => h) (fun _ h => h) (fun u t H1 locs1 ht _ hp hB _ _ hS => by
    subst hp
    exact kk H1 locs1 ⟨ht ▸ hB.1, hS⟩)
theorem x_good {ws' : List Cond} {w0 : Cond} (hws : ws' = w0 :: lwT) (h0 : w0 ∈ lwT) : ∀ w ∈ ws', w ∈ lwT := by
  intro w hw
  rw [hws] at hw
  rcases List.mem_cons.mp hw with h | h
  · rw [h]; exact h0
  · exact h
theorem x_goodV {index : Nat} {C : String} {yy : MethodName} {ws' : List Cond} {w0 : Cond} (hws : ws' = w0 :: lwT) (h0 : w0 ∈ lwT) (h1 : Cond.methodLink own index yy ∈ lwT) (h2 : Cond.instanceMethod yy ∈ lwT) (h3 : Cond.selects C yy yy ∈ lwT) (h4 : Cond.initialized C ∈ lwT) : GoodIn lwT (wsV own index C yy ws') := by
  intro w hw
  have hm : w ∈ lwT := by
    unfold wsV at hw
    rcases List.mem_append.mp hw with h | h
    · simp only [List.mem_cons, List.not_mem_nil, or_false] at h
      rcases h with rfl | rfl | rfl | rfl
      · exact h1
      · exact h2
      · exact h3
      · exact h4
    · exact x_good hws h0 w h
  exact ⟨hm, lwT_good w hm⟩
theorem x_recv (hK : XK D y s) (hw : XH D y ad L N σ s.heap H locs) {j ci n : Nat} {r : Nat → Nat} {C : String} {T : u_T} (hj : j < N) (hL : L j = (ci + 4, n, r)) (hc : vwCl[ci]? = some (C, T, n)) : ∃ cell : Cell, H[ad j]? = some cell ∧ cell.vm.isStatics = false ∧ s.vm.findClass C = some cell.cls := by
  have he : (wx y ad L N σ)[j]? = some (ad j, .inr (ci, (List.range n).map (fun k => xv ad σ j k (r k)))) := by
    rw [wx_at hj]
    simp [xc, hL]
  exact va_recv hK.1 hw.1 hc he
/-- an instance method of the world -/
theorem x_runV (C0 : CallFix p m c cc nL s args lwT own) (hK : XK D y s) (hw : XH D y ad L N σ s.heap H locs) (hl : ls.size = nL) (h0 : cells ≤ R.cells ∧ slots ≤ R.slots) {C : String} {T : u_T} {yy : MethodName} {bytes : ByteArray} {maxL n index : Nat} {ret : Option FieldType} {ws' : List Cond} {rm : Room} {As : List Value} {Qc : Array Value → State → Outcome → State → Prop} {j ci nf : Nat} {r : Nat → Nat}
    (hM : Met l yy ws' rm (va_Pc (.ref (ad j) :: As) (XW D y ad L N σ)) Qc 0 0 (XA ad N)) (hj : j < N) (hL : L j = (ci + 4, nf, r)) (hc : vwCl[ci]? = some (C, T, nf)) (hws : ws' = .code yy bytes maxL ret :: lwT) (hcode : Cond.code yy bytes maxL ret ∈ lwT) (h1 : Cond.methodLink own index yy ∈ lwT) (h2 : Cond.instanceMethod yy ∈ lwT) (h3 : Cond.selects C yy yy ∈ lwT) (h4 : Cond.initialized C ∈ lwT) (hrm : rm.cells = 0 ∧ rm.slots = 0) (hd : yy.cls = C ∧ yy.cls ≠ "java/lang/invoke/MethodHandle" ∧ yy.cls ≠ "java/lang/invoke/VarHandle" ∧ (parseMethodDescriptor yy.desc).map (fun d => d.parameters.length) = some n) (hn : As.length = n) (hR : rm.frames + 1 ≤ R.frames ∧ 8 + (maxL + 11) + rm.locals ≤ R.locals) (hrest : (rest.map fun v => v.category).sum ≤ 8) (hdg : decode cc pc = .ok (.invokevirtual index, 3)) :
    va_Run p l e R s m args below meth c H locs cells slots 0 0 (F0 m pc ls (As.reverse ++ .ref (ad j) :: rest)) rest (Qc (Value.ref (ad j) :: As).toArray) (XA ad N) :=
  va_runV C0 hM (cwV n C0.2.2.2.2 (x_goodV hws hcode h1 h2 h3 h4) hws hrm.1 hrm.2 hd hR) ⟨xBlind, x_recv hK hw hj hL hc, fun U hU hW => ⟨rfl, by rw [hU]; exact hw.1, hK.warm hW⟩⟩ rfl hn hl rfl (lv_room hrest) hdg h0
/-- a static method of the same class -/
theorem x_runS (C0 : CallFix p m c cc nL s args lwT own) (hK : XK D y s) (hw : XH D y ad L N σ s.heap H locs) (hl : ls.size = nL) (h0 : cells ≤ R.cells ∧ slots ≤ R.slots) {yy : MethodName} {bytes : ByteArray} {maxL n index : Nat} {ret : Option FieldType} {ws' : List Cond} {rm : Room} {As : List Value} {Qc : Array Value → State → Outcome → State → Prop}
    (hM : Met l yy ws' rm (va_Pc As (XW D y ad L N σ)) Qc 0 0 (XA ad N)) (hws : ws' = .code yy bytes maxL ret :: lwT) (hcode : Cond.code yy bytes maxL ret ∈ lwT) (h1 : Cond.methodLink own index yy ∈ lwT) (h2 : Cond.static yy ∈ lwT) (h4 : Cond.initialized yy.cls ∈ lwT) (hrm : rm.cells = 0 ∧ rm.slots = 0) (hd : yy.cls ≠ "java/lang/invoke/MethodHandle" ∧ yy.cls ≠ "java/lang/invoke/VarHandle" ∧ (parseMethodDescriptor yy.desc).map (fun d => d.parameters.length) = some n) (hn : As.length = n) (hR : rm.frames + 1 ≤ R.frames ∧ 8 + (maxL + 11) + rm.locals ≤ R.locals) (hrest : (rest.map fun v => v.category).sum ≤ 8) (hdg : decode cc pc = .ok (.invokestatic index, 3)) :
    va_Run p l e R s m args below meth c H locs cells slots 0 0 (F0 m pc ls (As.reverse ++ rest)) rest (Qc As.toArray) (XA ad N) :=
  va_runS C0 hM ⟨callB_of n C0.2.2.2.2 (fun w h => ⟨x_good hws hcode w h, lwT_good w (x_good hws hcode w h)⟩) hws hrm.1 hrm.2 (C0.2.2.2.2 _ h4) (C0.2.2.2.2 _ h1) hd hR, C0.2.2.2.2 _ h2⟩ ⟨xBlind, fun U hU hW => ⟨rfl, by rw [hU]; exact hw.1, hK.warm hW⟩⟩ rfl hn hl rfl (lv_room hrest) hdg h0
/-- Text's call of TrayBox.isWithin -/
theorem x_runSN (C0 : CallFix p m c cc nL s args lwT RX4) (hK : XK D y s) (hw : XH D y ad L N σ s.heap H locs) (hl : ls.size = nL) (h0 : cells ≤ R.cells ∧ slots ≤ R.slots) {ws' : List Cond} {bytes : ByteArray} {maxL : Nat} {ret : Option FieldType} {rm : Room} {As : List Value} {Qc : Array Value → State → Outcome → State → Prop}
    (hM : Met l yX6_isWithin ws' rm (va_Pc As (XW D y ad L N σ)) Qc 0 0 (XA ad N)) (hws : ws' = .code yX6_isWithin bytes maxL ret :: lwT) (hcode : Cond.code yX6_isWithin bytes maxL ret ∈ lwT) (h2 : Cond.static yX6_isWithin ∈ lwT) (h4 : Cond.initialized yX6_isWithin.cls ∈ lwT) (hrm : rm.cells = 0 ∧ rm.slots = 0) (hn : As.length = 3) (hR : rm.frames + 1 ≤ R.frames ∧ 8 + (maxL + 11) + rm.locals ≤ R.locals) (hrest : (rest.map fun v => v.category).sum ≤ 8) (hdg : decode cc pc = .ok (.invokestatic 78, 3)) :
    va_Run p l e R s m args below meth c H locs cells slots 0 0 (F0 m pc ls (As.reverse ++ rest)) rest (Qc As.toArray) (XA ad N) :=
  va_runSN C0 hM ⟨va_cnB 3 C0.2.2.2.2 (fun w h => ⟨x_good hws hcode w h, lwT_good w (x_good hws hcode w h)⟩) hws hrm.1 hrm.2 hK.2 (C0.2.2.2.2 _ h4) (by decide +kernel) hR, C0.2.2.2.2 _ h2, trivial⟩ ⟨xBlind, fun U hU hW => ⟨rfl, by rw [hU]; exact hw.1, hK.warm hW⟩⟩ rfl hn hl rfl (lv_room hrest) hdg h0
end XR
/-- a method's walk, from its entry -/
theorem x_met {l : Launch} {D : va_G} {y : Nat → ClassId} {ad : Nat → Nat} {L : XL} {N : Nat} {σ : S} {yy : MethodName} {ws : List Cond} {rm : Room} {bytes : ByteArray} {maxL : Nat} {ret : Option FieldType} {own : String} {av : List Value} {Qc : Array Value → State → Outcome → State → Prop} (hy : plainName yy.cls = true) (hown : yy.cls = own) (hws : ws = .code yy bytes maxL ret :: lwT) (hlen : (lg_sl av).length ≤ maxL)
    (body : ∀ (p : Program) (e : Env) (s : State) (m : MethodId) (below : List Frame) (meth : Method) (c : Code) (ls : Array Slot), CallFix p m c bytes maxL s av.toArray lwT own → XK D y s → meth.locks = false → meth.sig.returnType = ret → XH D y ad L N σ s.heap s.heap [] → lv_has ls maxL (lv_args 0 av) →
      W p l e (headSpec ws rm).room s m av.toArray below meth c s.heap [] 0 0 (MQ below Qc av.toArray s 0 0 (XA ad N)) (F0 m 0 ls [])) : Met l yy ws rm (va_Pc av (XW D y ad L N σ)) Qc 0 0 (XA ad N) := by
  refine Met.ofW (cc := bytes) (maxL := maxL) (ret := ret) hy hws ?_
  intro p e s m args below meth c s₁ B hml hv
  obtain ⟨rfl, hP, hK⟩ := hv
  have hl := lv_entry av (n := maxL) hlen
  have hown2 : s.vm.findClass yy.cls = some m.cls := findClass_of_methodNamed B.named
  rw [hown] at hown2
  rw [lg_entry_eq]
  exact body p e s m below meth c _ ⟨B.exec, B.bytes, hml, hown2, fun w h => atoms_spec (ws := ws) B.pre w (by rw [hws]; exact List.mem_cons_of_mem _ h)⟩ hK B.notSynchronized B.returns ⟨hP, va_S.rf⟩ hl
end
section
/-! loops over the world; the two layouts -/
section XLO
variable {p : Program} {l : Launch} {e : Env} {R : Room} {s : State} {m : MethodId} {args : Array Value} {below : List Frame} {meth : Method} {c : Code} {H : Heap} {locs : List Loc} {Q : State → Prop}
variable {cc : ByteArray} {nL pc : Nat} {own : String} {ls : Array Slot} {rest : List Value} {D : va_G} {y : Nat → ClassId} {ad : Nat → Nat} {L : XL} {N : Nat} {σ : S}
def XG (p : Program) (l : Launch) (e : Env) (R : Room) (s : State) (m : MethodId) (args : Array Value) (below : List Frame) (meth : Method) (c : Code) (D : va_G) (y : Nat → ClassId) (ad : Nat → Nat) (L : XL) (N nL : Nat) (Q : State → Prop) (pc : Nat) (u : S) (lv : List (Nat × Value)) : Prop :=
  ∀ (H : Heap) (locs : List Loc) (ls : Array Slot), XH D y ad L N u s.heap H locs → lv_has ls nL lv → W p l e R s m args below meth c H locs 0 0 Q (F0 m pc ls [])
theorem X_loop {α : Type} {step : α → Option (α ⊕ α)} {xpc : Nat} {fu : α → S} {fl : α → List (Nat × Value)}
    (hs : ∀ (a : α) (r : α ⊕ α), step a = some r → (∀ b, r = .inl b → XG p l e R s m args below meth c D y ad L N nL Q xpc (fu b) (fl b)) → (∀ b, r = .inr b → XG p l e R s m args below meth c D y ad L N nL Q pc (fu b) (fl b)) → ∀ (H : Heap) (locs : List Loc) (ls : Array Slot), XH D y ad L N (fu a) s.heap H locs → lv_has ls nL (fl a) → W p l e R s m args below meth c H locs 0 0 Q (F0 m pc ls []))
    {n : Nat} {a b : α} (h : lp step n a = some b) (hE : ∀ (H : Heap) (locs : List Loc) (ls : Array Slot), XH D y ad L N (fu b) s.heap H locs → lv_has ls nL (fl b) → W p l e R s m args below meth c H locs 0 0 Q (F0 m xpc ls []))
    (hw : XH D y ad L N (fu a) s.heap H locs) (hl : lv_has ls nL (fl a)) : W p l e R s m args below meth c H locs 0 0 Q (F0 m pc ls []) :=
  W_loop (G := fun a => XG p l e R s m args below meth c D y ad L N nL Q pc (fu a) (fl a)) (E := fun b => XG p l e R s m args below meth c D y ad L N nL Q xpc (fu b) (fl b)) hs n a b h hE H locs ls hw hl
theorem X_loopR {α ρ : Type} {step : α → Option ((ρ ⊕ α) ⊕ α)} {xpc : Nat} {fu : α → S} {fl : α → List (Nat × Value)} {o : ρ}
    (hs : ∀ (a : α) (r : (ρ ⊕ α) ⊕ α), step a = some r → (∀ x, r = .inl (.inl x) → x = o) → (∀ b, r = .inl (.inr b) → XG p l e R s m args below meth c D y ad L N nL Q xpc (fu b) (fl b)) → (∀ b, r = .inr b → XG p l e R s m args below meth c D y ad L N nL Q pc (fu b) (fl b)) → ∀ (H : Heap) (locs : List Loc) (ls : Array Slot), XH D y ad L N (fu a) s.heap H locs → lv_has ls nL (fl a) → W p l e R s m args below meth c H locs 0 0 Q (F0 m pc ls []))
    {n : Nat} {a : α} {b : ρ ⊕ α} (h : lp step n a = some b) (hX : ∀ x, b = .inl x → x = o) (hE : ∀ b', b = .inr b' → ∀ (H : Heap) (locs : List Loc) (ls : Array Slot), XH D y ad L N (fu b') s.heap H locs → lv_has ls nL (fl b') → W p l e R s m args below meth c H locs 0 0 Q (F0 m xpc ls []))
    (hw : XH D y ad L N (fu a) s.heap H locs) (hl : lv_has ls nL (fl a)) : W p l e R s m args below meth c H locs 0 0 Q (F0 m pc ls []) :=
  W_loop (G := fun a => XG p l e R s m args below meth c D y ad L N nL Q pc (fu a) (fl a)) (E := fun b => (∀ x, b = .inl x → x = o) ∧ ∀ b', b = .inr b' → XG p l e R s m args below meth c D y ad L N nL Q xpc (fu b') (fl b'))
    (fun a r h1 h2 h3 => hs a r h1 (fun x hx => (h2 _ hx).1 x rfl) (fun b hb => (h2 _ hb).2 b rfl) h3) n a b h ⟨hX, hE⟩ H locs ls hw hl
theorem x_backp {cells slots : Nat} (hw : XH D y ad L N σ s.heap H locs) {st0 : List Value} {a : Array Value} {o : Int32} (hr : va_Run p l e R s m args below meth c H locs cells slots 0 0 (F0 m pc ls st0) rest (XQi D y ad L N (o, σ) a) (XA ad N))
    (kk : ∀ (H1 : Heap) (locs1 : List Loc), XH D y ad L N σ s.heap H1 locs1 → W p l e R s m args below meth c H1 locs1 cells slots Q (F0 m (pc + 3) ls (.int o :: rest))) : W p l e R s m args below meth c H locs cells slots Q (F0 m pc ls st0) := x_back hw hr kk
/-- one array over another, from 0 on -/
def cpA (u : S) (j0 j1 n : Nat) : S := (fun a b => if a = j1 ∧ b < n then u.1 j0 b else u.1 a b, u.2)
theorem x_copy (hI : XI ad N) (C0 : CallFix p m c cc nL s args lwT own) (hK : XK D y s) (hw : XH D y ad L N σ s.heap H locs) (hl : ls.size = nL) {index : Nat} (h1 : Cond.methodLink own index arraycopyName ∈ lwT) (h2 : Cond.native arraycopyName ∈ lwT) (h3 : Cond.static arraycopyName ∈ lwT) (h4 : Cond.initialized "java/lang/System" ∈ lwT)
    {j0 j1 n0 n1 : Nat} {r0 r1 : Nat → Nat} (hj0 : j0 < N) (hL0 : L j0 = (0, n0, r0)) (hj1 : j1 < N) (hL1 : L j1 = (0, n1, r1)) {n : Int32} {k : Nat} (hn : ¬ n < 0) (hnk : n.toNatClampNeg = k ∧ k ≤ n0 ∧ k ≤ n1) {σ' : S} (es : σ' = cpA σ j0 j1 k) (hz : (0 : Int32).toNatClampNeg = 0) (hfr : 1 ≤ R.frames) (hlo : (rest.map fun v => v.category).sum + (nativeFrameWords "java/lang/System" "arraycopy" 5 + 11) ≤ R.locals) (hdg : decode cc pc = .ok (.invokestatic index, 3))
    (kk : ∀ (H1 : Heap) (locs1 : List Loc), XH D y ad L N σ' s.heap H1 locs1 → W p l e R s m args below meth c H1 locs1 0 0 Q (F0 m (pc + 3) ls rest)) : W p l e R s m args below meth c H locs 0 0 Q (F0 m pc ls (.int n :: .int 0 :: .ref (ad j1) :: .int 0 :: .ref (ad j0) :: rest)) := by
  refine va_copyi C0.1 C0.2.1 (C0.2.2.1.trans hl.symm) C0.2.2.2.1 (C0.2.2.2.2 _ h1) (C0.2.2.2.2 _ h2) (C0.2.2.2.2 _ h3) (C0.2.2.2.2 _ h4) hK.1 hw.1 (xD hI) hw.2 j0 j1 0 0 (x_arr0 hj0 hL0) (x_arr0 hj1 hL1) rfl rfl rfl (by decide) (by decide) hn (by rw [hz, hnk.1]; omega) (by rw [hz, hnk.1]; omega) (fun _ _ => rfl) hfr hlo hdg (fun H1 locs1 a1 _ a3 => ?_)
  refine kk H1 locs1 ⟨?_, a3⟩
  have hset : (wx y ad L N σ).set j1 (ad j1, .inl (y 0, n1, .inl (va_cpy (σ.1 j0) (σ.1 j1) (0 : Int32).toNatClampNeg (0 : Int32).toNatClampNeg n.toNatClampNeg))) = wx y ad L N σ' := by
    rw [es, hz, hnk.1]
    rw [← wx_set (s := σ) (s' := cpA σ j0 j1 k) (j := j1) (fun i hi => ?_)]
    · congr 2
      have h1 : va_cpy (σ.1 j0) (σ.1 j1) 0 0 k = (cpA σ j0 j1 k).1 j1 := by
        funext b
        simp [va_cpy, cpA]
      simp [xc, hL1, h1]
    · have h1 : (cpA σ j0 j1 k).1 i = σ.1 i := by
        funext b
        simp [cpA, hi]
      have h2 : ∀ (a : Nat) (t : Nat), xv ad (cpA σ j0 j1 k) i a t = xv ad σ i a t := by
        intro a t
        match t with
        | 0 => simp [xv, h1]
        | 1 => simp [xv, cpA]
        | c + 2 => simp [xv]
      simp only [xc, h1, h2]
  exact hset ▸ a1
end XLO
theorem if_t {α : Type} {c : Prop} [Decidable c] {a b : Option α} {r : α} (h : (if c then a else b) = some r) (hc : c) : a = some r := by rwa [if_pos hc] at h
theorem if_f {α : Type} {c : Prop} [Decidable c] {a b : Option α} {r : α} (h : (if c then a else b) = some r) (hc : ¬ c) : b = some r := by rwa [if_neg hc] at h
theorem sum_r {α β γ : Type} {f : α → γ} {g : β → γ} {b : β} {r : γ} (h : Sum.elim f g (.inr b) = r) : g b = r := h
def ol (o : Nat) : Nat := if o % 2 = 0 then 12 else 4
/-- the class's world: 132 trays, 11 boxes (0 the box, 1 to 8 the ring, 9 the trial, 10 the text's), their rows, 2 finders, their tops, and what is there once -/
def LX : XL := fun j =>
  if j < 132 then (9, 14, fun _ => 0)
  else if j < 143 then (4, 6, fun k => if k = 5 then 143 + (j - 132) + 2 else 0)
  else if j < 154 then (3, 12, fun i => 12 * (j - 143) + i)
  else if j < 156 then (5, 9, fun k => if k = 0 then 156 + (j - 154) + 2 else 0)
  else if j < 158 then (0, 100, fun _ => 0)
  else if j = 158 then (6, 3, fun k => if k = 2 then 159 + 2 else 0)
  else if j = 159 then (2, 8, fun i => 132 + (1 + i))
  else if j = 160 then (8, 6, fun k => if k = 2 then 132 + 10 + 2 else if k = 3 then 161 + 2 else 0)
  else if j = 161 then (1, 100, fun _ => 0)
  else if j = 162 then (7, 6, fun k => if k = 0 then 163 + 0 + 2 else if k = 1 then 163 + 1 + 2 else if k = 2 then 132 + 9 + 2 else if k = 3 then 163 + 2 + 2 else if k = 4 then 163 + 3 + 2 else 154 + 1 + 2)
  else if j < 167 then (0, ol (j - 163), fun _ => 0)
  else (10, 5, fun k => if k = 0 then 132 + 0 + 2 else if k = 1 then 158 + 2 else if k = 2 then 160 + 2 else if k = 3 then 154 + 0 + 2 else 162 + 2)
theorem ly_T {j : Nat} (h : j < 132) : LX j = (5 + 4, 14, fun _ => 0) := by simp [LX, h]
theorem ly_B {b : Nat} (h : b < 11) : LX (132 + b) = (0 + 4, 6, fun k => if k = 5 then 143 + b + 2 else 0) := by
  simp only [LX]
  rw [if_neg (by omega), if_pos (by omega), Nat.add_sub_cancel_left]
theorem ly_R {b : Nat} (h : b < 11) : LX (143 + b) = (3, 12, fun i => 12 * b + i) := by
  simp only [LX]
  rw [if_neg (by omega), if_neg (by omega), if_pos (by omega), Nat.add_sub_cancel_left]
theorem ly_F {b : Nat} (h : b < 2) : LX (154 + b) = (1 + 4, 9, fun k => if k = 0 then 156 + b + 2 else 0) := by
  simp only [LX]
  rw [if_neg (by omega), if_neg (by omega), if_neg (by omega), if_pos (by omega), Nat.add_sub_cancel_left]
theorem ly_G {b : Nat} (h : b < 2) : LX (156 + b) = (0, 100, fun _ => 0) := by
  simp only [LX]
  rw [if_neg (by omega), if_neg (by omega), if_neg (by omega), if_neg (by omega), if_pos (by omega)]
theorem ly_H : LX 158 = (2 + 4, 3, fun k => if k = 2 then 159 + 2 else 0) := rfl
theorem ly_Q : LX 159 = (2, 8, fun i => 132 + (1 + i)) := rfl
theorem ly_X : LX 160 = (4 + 4, 6, fun k => if k = 2 then 132 + 10 + 2 else if k = 3 then 161 + 2 else 0) := rfl
theorem ly_Y : LX 161 = (1, 100, fun _ => 0) := rfl
theorem ly_P : LX 162 = (3 + 4, 6, fun k => if k = 0 then 163 + 0 + 2 else if k = 1 then 163 + 1 + 2 else if k = 2 then 132 + 9 + 2 else if k = 3 then 163 + 2 + 2 else if k = 4 then 163 + 3 + 2 else 154 + 1 + 2) := rfl
theorem ly_O {b : Nat} (h : b < 4) : LX (163 + b) = (0, ol b, fun _ => 0) := by
  simp only [LX]
  rw [if_neg (by omega), if_neg (by omega), if_neg (by omega), if_neg (by omega), if_neg (by omega), if_neg (by omega), if_neg (by omega), if_neg (by omega), if_neg (by omega), if_neg (by omega), if_pos (by omega), Nat.add_sub_cancel_left]
theorem ly_M : LX 167 = (6 + 4, 5, fun k => if k = 0 then 132 + 0 + 2 else if k = 1 then 158 + 2 else if k = 2 then 160 + 2 else if k = 3 then 154 + 0 + 2 else 162 + 2) := rfl
theorem jy_T {j : Nat} (h : j < 132) : j < 168 := by omega
theorem jy_B {b : Nat} (h : b < 11) : 132 + b < 168 := by omega
theorem jy_R {b : Nat} (h : b < 11) : 143 + b < 168 := by omega
theorem jy_F {b : Nat} (h : b < 2) : 154 + b < 168 := by omega
theorem jy_G {b : Nat} (h : b < 2) : 156 + b < 168 := by omega
theorem jy_O {b : Nat} (h : b < 4) : 163 + b < 168 := by omega
theorem tb {b i : Nat} (h : b < 11) (hi : i < 12) : 12 * b + i < 132 := by omega
theorem rb {i : Nat} (hi : i < 8) : 1 + i < 11 := by omega
/-- the reference's world: itself and its seven rows -/
def LM : XL := fun j =>
  if j = 0 then (11, 21, fun k => if k = 0 then 1 + 2 else if k = 2 then 2 + 2 else if k = 5 then 3 + 2 else if k = 16 then 4 + 2 else if k = 17 then 5 + 2 else if k = 18 then 6 + 2 else if k = 19 then 7 + 2 else if k = 20 then 1 else 0)
  else (0, if j = 1 then 1375 else if j = 2 then 100 else if j = 3 then 100 else if j = 6 then 4 else 12, fun _ => 0)
theorem ly_m0 : LM 0 = (7 + 4, 21, fun k => if k = 0 then 1 + 2 else if k = 2 then 2 + 2 else if k = 5 then 3 + 2 else if k = 16 then 4 + 2 else if k = 17 then 5 + 2 else if k = 18 then 6 + 2 else if k = 19 then 7 + 2 else if k = 20 then 1 else 0) := rfl
theorem ly_m1 : LM 1 = (0, 1375, fun _ => 0) := rfl
theorem ly_m2 : LM 2 = (0, 100, fun _ => 0) := rfl
theorem ly_m3 : LM 3 = (0, 100, fun _ => 0) := rfl
theorem ly_m4 : LM 4 = (0, 12, fun _ => 0) := rfl
theorem ly_m5 : LM 5 = (0, 12, fun _ => 0) := rfl
theorem ly_m6 : LM 6 = (0, 4, fun _ => 0) := rfl
theorem ly_m7 : LM 7 = (0, 12, fun _ => 0) := rfl
theorem LM_one : ∀ i, i < 21 → (fun k => if k = 0 then 1 + 2 else if k = 2 then 2 + 2 else if k = 5 then 3 + 2 else if k = 16 then 4 + 2 else if k = 17 then 5 + 2 else if k = 18 then 6 + 2 else if k = 19 then 7 + 2 else if k = 20 then 1 else 0) i = 1 → i = 20 := by decide +kernel
theorem LM_oth : ∀ i, i ≠ 0 → ∀ a, a < (LM i).2.1 → (LM i).2.2 a ≠ 1 := by
  intro i hi a _
  simp [LM, hi]
end
section
/-- java/lang/Integer.bitCount(I)I -/
def fJ6_bitCount_0f7a4 (v0 : Int32) (u : S) : Option (Int32) :=
some ((((((((v0 - (((v0.toUInt32 >>> ((1 : Int32).toUInt32 &&& Int32.toUInt32 31)).toInt32) &&& 1431655765)) &&& 858993459) + ((((v0 - (((v0.toUInt32 >>> ((1 : Int32).toUInt32 &&& Int32.toUInt32 31)).toInt32) &&& 1431655765)).toUInt32 >>> ((2 : Int32).toUInt32 &&& Int32.toUInt32 31)).toInt32) &&& 858993459)) + (((((v0 - (((v0.toUInt32 >>> ((1 : Int32).toUInt32 &&& Int32.toUInt32 31)).toInt32) &&& 1431655765)) &&& 858993459) + ((((v0 - (((v0.toUInt32 >>> ((1 : Int32).toUInt32 &&& Int32.toUInt32 31)).toInt32) &&& 1431655765)).toUInt32 >>> ((2 : Int32).toUInt32 &&& Int32.toUInt32 31)).toInt32) &&& 858993459)).toUInt32 >>> ((4 : Int32).toUInt32 &&& Int32.toUInt32 31)).toInt32)) &&& 252645135) + (((((((v0 - (((v0.toUInt32 >>> ((1 : Int32).toUInt32 &&& Int32.toUInt32 31)).toInt32) &&& 1431655765)) &&& 858993459) + ((((v0 - (((v0.toUInt32 >>> ((1 : Int32).toUInt32 &&& Int32.toUInt32 31)).toInt32) &&& 1431655765)).toUInt32 >>> ((2 : Int32).toUInt32 &&& Int32.toUInt32 31)).toInt32) &&& 858993459)) + (((((v0 - (((v0.toUInt32 >>> ((1 : Int32).toUInt32 &&& Int32.toUInt32 31)).toInt32) &&& 1431655765)) &&& 858993459) + ((((v0 - (((v0.toUInt32 >>> ((1 : Int32).toUInt32 &&& Int32.toUInt32 31)).toInt32) &&& 1431655765)).toUInt32 >>> ((2 : Int32).toUInt32 &&& Int32.toUInt32 31)).toInt32) &&& 858993459)).toUInt32 >>> ((4 : Int32).toUInt32 &&& Int32.toUInt32 31)).toInt32)) &&& 252645135).toUInt32 >>> ((8 : Int32).toUInt32 &&& Int32.toUInt32 31)).toInt32)) + ((((((((v0 - (((v0.toUInt32 >>> ((1 : Int32).toUInt32 &&& Int32.toUInt32 31)).toInt32) &&& 1431655765)) &&& 858993459) + ((((v0 - (((v0.toUInt32 >>> ((1 : Int32).toUInt32 &&& Int32.toUInt32 31)).toInt32) &&& 1431655765)).toUInt32 >>> ((2 : Int32).toUInt32 &&& Int32.toUInt32 31)).toInt32) &&& 858993459)) + (((((v0 - (((v0.toUInt32 >>> ((1 : Int32).toUInt32 &&& Int32.toUInt32 31)).toInt32) &&& 1431655765)) &&& 858993459) + ((((v0 - (((v0.toUInt32 >>> ((1 : Int32).toUInt32 &&& Int32.toUInt32 31)).toInt32) &&& 1431655765)).toUInt32 >>> ((2 : Int32).toUInt32 &&& Int32.toUInt32 31)).toInt32) &&& 858993459)).toUInt32 >>> ((4 : Int32).toUInt32 &&& Int32.toUInt32 31)).toInt32)) &&& 252645135) + (((((((v0 - (((v0.toUInt32 >>> ((1 : Int32).toUInt32 &&& Int32.toUInt32 31)).toInt32) &&& 1431655765)) &&& 858993459) + ((((v0 - (((v0.toUInt32 >>> ((1 : Int32).toUInt32 &&& Int32.toUInt32 31)).toInt32) &&& 1431655765)).toUInt32 >>> ((2 : Int32).toUInt32 &&& Int32.toUInt32 31)).toInt32) &&& 858993459)) + (((((v0 - (((v0.toUInt32 >>> ((1 : Int32).toUInt32 &&& Int32.toUInt32 31)).toInt32) &&& 1431655765)) &&& 858993459) + ((((v0 - (((v0.toUInt32 >>> ((1 : Int32).toUInt32 &&& Int32.toUInt32 31)).toInt32) &&& 1431655765)).toUInt32 >>> ((2 : Int32).toUInt32 &&& Int32.toUInt32 31)).toInt32) &&& 858993459)).toUInt32 >>> ((4 : Int32).toUInt32 &&& Int32.toUInt32 31)).toInt32)) &&& 252645135).toUInt32 >>> ((8 : Int32).toUInt32 &&& Int32.toUInt32 31)).toInt32)).toUInt32 >>> ((16 : Int32).toUInt32 &&& Int32.toUInt32 31)).toInt32)) &&& 63)
/-- TrayBox$Tray.copyFrom(LTrayBox$Tray;)V -/
def fX5_copyFrom (v0 : Nat) (v1 : Nat) (u : S) : Option (S) :=
nm (up u v0 0 (u.1 v1 0)) fun u1 =>
nm (up u1 v0 1 (u1.1 v1 1)) fun u2 =>
nm (up u2 v0 2 (u2.1 v1 2)) fun u3 =>
nm (up u3 v0 3 (u3.1 v1 3)) fun u4 =>
nm (up u4 v0 4 (u4.1 v1 4)) fun u5 =>
gd (isb (u5.1 v1 5)) <| nm (up u5 v0 5 (u5.1 v1 5)) fun u6 =>
gd (isb (u6.1 v1 6)) <| nm (up u6 v0 6 (u6.1 v1 6)) fun u7 =>
nm (up u7 v0 7 (u7.1 v1 7)) fun u8 =>
nm (up u8 v0 8 (u8.1 v1 8)) fun u9 =>
nm (up u9 v0 9 (u9.1 v1 9)) fun u10 =>
nm (up u10 v0 10 (u10.1 v1 10)) fun u11 =>
nm (up u11 v0 11 (u11.1 v1 11)) fun u12 =>
nm (up u12 v0 12 (u12.1 v1 12)) fun u13 =>
nm (up u13 v0 13 (u13.1 v1 13)) fun u14 =>
some u14
/-- TrayBox$Box.copyTrays(LTrayBox$Box;)V -/
def gX0_copyTrays_10 (v0 : Nat) (v1 : Nat) (a : Int32 × S) : Option ((Int32 × S) ⊕ (Int32 × S)) :=
if (a.2.1 (132 + v0) 4) ≤ a.1 then
(some (.inl (a.1, a.2)))
else
(gd (inb a.1 12) <|
gd (inb a.1 12) <|
(fX5_copyFrom (12 * v0 + a.1.toNatClampNeg) (12 * v1 + a.1.toNatClampNeg) a.2).bind fun q104 =>
some (.inr (a.1 + 1, q104)))
def fX0_copyTrays (v0 : Nat) (v1 : Nat) (u : S) : Option (S) :=
nm (up u (132 + v0) 4 (u.1 (132 + v1) 4)) fun u1 =>
(lp (gX0_copyTrays_10 v0 v1) FU (0, u1)).bind fun e2 =>
some e2.2
/-- TrayBox$Box.copyFrom(LTrayBox$Box;)V -/
def fX0_copyFrom (v0 : Nat) (v1 : Nat) (u : S) : Option (S) :=
nm (up u (132 + v0) 0 (u.1 (132 + v1) 0)) fun u1 =>
nm (up u1 (132 + v0) 1 (u1.1 (132 + v1) 1)) fun u2 =>
nm (up u2 (132 + v0) 2 (u2.1 (132 + v1) 2)) fun u3 =>
nm (up u3 (132 + v0) 3 (u3.1 (132 + v1) 3)) fun u4 =>
(fX0_copyTrays v0 v1 u4).bind fun q5 =>
some q5
/-- TrayBox$Tray.leave()V -/
def fX5_leave (v0 : Nat) (u : S) : Option (S) :=
nm (up u v0 5 0) fun u1 =>
nm (up u1 v0 6 0) fun u2 =>
some u2
/-- TrayBox$Box.clear()V -/
def gX0_clear_2 (v0 : Nat) (a : Int32 × S) : Option ((Int32 × S) ⊕ (Int32 × S)) :=
if (a.2.1 (132 + v0) 4) ≤ a.1 then
(some (.inl (a.1, a.2)))
else
(gd (inb a.1 12) <|
(fX5_leave (12 * v0 + a.1.toNatClampNeg) a.2).bind fun q102 =>
some (.inr (a.1 + 1, q102)))
def fX0_clear (v0 : Nat) (u : S) : Option (S) :=
(lp (gX0_clear_2 v0) FU (0, u)).bind fun e1 =>
some e1.2
/-- TrayBox$Box.remove(I)V -/
def gX0_remove_2 (v0 : Nat) (a : Int32 × S) : Option ((Int32 × S) ⊕ (Int32 × S)) :=
if ((a.2.1 (132 + v0) 4) - 1) ≤ a.1 then
(some (.inl (a.1, a.2)))
else
(gd (inb a.1 12) <|
gd (inb (a.1 + 1) 12) <|
(fX5_copyFrom (12 * v0 + a.1.toNatClampNeg) (12 * v0 + (a.1 + 1).toNatClampNeg) a.2).bind fun q103 =>
some (.inr (a.1 + 1, q103)))
def fX0_remove (v0 : Nat) (v1 : Int32) (u : S) : Option (S) :=
(lp (gX0_remove_2 v0) FU (v1, u)).bind fun e1 =>
nm (up e1.2 (132 + v0) 4 ((e1.2.1 (132 + v0) 4) - 1)) fun u5 =>
some u5
/-- TrayBox$Box.has(I)Z -/
def fX0_has (v0 : Nat) (v1 : Int32) (u : S) : Option (Int32) :=
if v1 < 0 then
(some 0)
else
(if (u.1 (132 + v0) 4) ≤ v1 then
(some 0)
else
(some 1))
/-- TrayBox$Tray.alongX(Z)I -/
def fX5_alongX (v0 : Nat) (v1 : Int32) (u : S) : Option (Int32) :=
if v1 = 0 then
(some (u.1 v0 0))
else
(some (u.1 v0 1))
/-- TrayBox$Tray.alongY(Z)I -/
def fX5_alongY (v0 : Nat) (v1 : Int32) (u : S) : Option (Int32) :=
if v1 = 0 then
(some (u.1 v0 1))
else
(some (u.1 v0 0))
/-- TrayBox$Box.encloses(LTrayBox$Tray;IIZ)Z -/
def fX0_encloses (v0 : Nat) (v1 : Nat) (v2 : Int32) (v3 : Int32) (v4 : Int32) (u : S) : Option (Int32) :=
if v2 < 0 then
(some 0)
else
((fX5_alongX v1 v4 u).bind fun q1 =>
if ((u.1 (132 + v0) 0) - q1) < v2 then
(some 0)
else
(if v3 < 0 then
(some 0)
else
((fX5_alongY v1 v4 u).bind fun q2 =>
if ((u.1 (132 + v0) 1) - q2) < v3 then
(some 0)
else
(some 1))))
/-- TrayBox$Tray.tall()I -/
def fX5_tall (v0 : Nat) (u : S) : Option (Int32) :=
some ((u.1 v0 2) + (u.1 v0 4))
/-- TrayBox$Box.highestFloor(LTrayBox$Tray;)I -/
def fX0_highestFloor (v0 : Nat) (v1 : Nat) (u : S) : Option (Int32) :=
(fX5_tall v1 u).bind fun q1 =>
some ((u.1 (132 + v0) 2) - q1)
/-- TrayBox$Box.inside()I -/
def gX0_inside_4 (v0 : Nat) (u : S) (a : Int32 × Int32) : Option ((Int32 × Int32) ⊕ (Int32 × Int32)) :=
if (u.1 (132 + v0) 4) ≤ a.2 then
(some (.inl (a.1, a.2)))
else
(gd (inb a.2 12) <|
if (u.1 (12 * v0 + a.2.toNatClampNeg) 5) = 0 then
(some (.inr (a.1, a.2 + 1)))
else
(some (.inr (a.1 ||| (1 <<< (a.2 &&& 31)), a.2 + 1))))
def fX0_inside (v0 : Nat) (u : S) : Option (Int32) :=
(lp (gX0_inside_4 v0 u) FU (0, 0)).bind fun e1 =>
some e1.1
/-- TrayBox$Tray.covers(II)Z -/
def fX5_covers (v0 : Nat) (v1 : Int32) (v2 : Int32) (u : S) : Option (Int32) :=
if (u.1 v0 5) = 0 then
(some 0)
else
(if v1 < (u.1 v0 7) then
(some 0)
else
(if (u.1 v0 9) ≤ v1 then
(some 0)
else
(if v2 < (u.1 v0 8) then
(some 0)
else
(if (u.1 v0 10) ≤ v2 then
(some 0)
else
(some 1)))))
/-- TrayBox$Box.uppermost(II)I -/
def gX0_uppermost_9 (v0 : Nat) (v1 : Int32) (v2 : Int32) (u : S) (a : Int32 × Int32 × Int32) : Option ((Int32 × Int32 × Int32) ⊕ (Int32 × Int32 × Int32)) :=
if (u.1 (132 + v0) 4) ≤ a.2.2 then
(some (.inl (a.1, a.2.1, a.2.2)))
else
(gd (inb a.2.2 12) <|
(fX5_covers (12 * v0 + a.2.2.toNatClampNeg) v1 v2 u).bind fun q102 =>
if q102 = 0 then
(some (.inr (a.1, a.2.1, a.2.2 + 1)))
else
(gd (inb a.2.2 12) <|
if (u.1 (12 * v0 + a.2.2.toNatClampNeg) 12) ≤ a.2.1 then
(some (.inr (a.1, a.2.1, a.2.2 + 1)))
else
(gd (inb a.2.2 12) <|
some (.inr (a.2.2, u.1 (12 * v0 + a.2.2.toNatClampNeg) 12, a.2.2 + 1)))))
def fX0_uppermost (v0 : Nat) (v1 : Int32) (v2 : Int32) (u : S) : Option (Int32) :=
(lp (gX0_uppermost_9 v0 v1 v2 u) FU ((-9), 0, 0)).bind fun e1 =>
some e1.1
/-- TrayBox$Tray.liesOn(LTrayBox$Tray;)Z -/
def fX5_liesOn (v0 : Nat) (v1 : Nat) (u : S) : Option (Int32) :=
if (u.1 v0 5) = 0 then
(some 0)
else
(if (u.1 v1 5) = 0 then
(some 0)
else
(if (u.1 v0 11) < (u.1 v1 12) then
(some 0)
else
(if (u.1 v1 9) ≤ (u.1 v0 7) then
(some 0)
else
(if (u.1 v0 9) ≤ (u.1 v1 7) then
(some 0)
else
(if (u.1 v1 10) ≤ (u.1 v0 8) then
(some 0)
else
(if (u.1 v0 10) ≤ (u.1 v1 8) then
(some 0)
else
(some 1)))))))
/-- TrayBox$Box.lyingOn(I)I -/
def gX0_lyingOn_4 (v0 : Nat) (v1 : Int32) (u : S) (a : Int32 × Int32) : Option ((Int32 × Int32) ⊕ (Int32 × Int32)) :=
if (u.1 (132 + v0) 4) ≤ a.2 then
(some (.inl (a.1, a.2)))
else
(gd (inb a.2 12) <|
gd (inb v1 12) <|
(fX5_liesOn (12 * v0 + a.2.toNatClampNeg) (12 * v0 + v1.toNatClampNeg) u).bind fun q103 =>
if q103 = 0 then
(some (.inr (a.1, a.2 + 1)))
else
(some (.inr (a.1 ||| (1 <<< (a.2 &&& 31)), a.2 + 1))))
def fX0_lyingOn (v0 : Nat) (v1 : Int32) (u : S) : Option (Int32) :=
(lp (gX0_lyingOn_4 v0 v1 u) FU (0, 0)).bind fun e1 =>
some e1.1
/-- TrayBox$Box.isFree(I)Z -/
def fX0_isFree (v0 : Nat) (v1 : Int32) (u : S) : Option (Int32) :=
(fX0_lyingOn v0 v1 u).bind fun q1 =>
if q1 = 0 then
(some 1)
else
(some 0)
/-- TrayBox$Box.above(II)I -/
def gX0_above_41 (v0 : Nat) (v2 : Int32) (v6 : Int32) (u : S) (a : Int32 × Int32) : Option ((Int32 × Int32) ⊕ (Int32 × Int32)) :=
if (u.1 (132 + v0) 4) ≤ a.2 then
(some (.inl (a.1, a.2)))
else
(if (v6 &&& (1 <<< (a.2 &&& 31))) = 0 then
(some (.inr (a.1, a.2 + 1)))
else
((fX0_lyingOn v0 a.2 u).bind fun q202 =>
some (.inr (a.1 ||| (q202 &&& v2), a.2 + 1))))
def gX0_above_14 (v0 : Nat) (v2 : Int32) (u : S) (a : Int32 × Int32 × Int32) : Option ((Int32 × Int32 × Int32) ⊕ (Int32 × Int32 × Int32)) :=
if 12 ≤ a.2.2 then
(some (.inl (a.1, a.2.1, a.2.2)))
else
(if a.2.1 = a.1 then
(some (.inl (a.1, a.2.1, a.2.2)))
else
((lp (gX0_above_41 v0 v2 (a.2.1 &&& (a.1 ^^^ (-1))) u) FU (a.2.1, 0)).bind fun e102 =>
some (.inr (a.2.1, e102.1, a.2.2 + 1))))
def fX0_above (v0 : Nat) (v1 : Int32) (v2 : Int32) (u : S) : Option (Int32) :=
(fX0_lyingOn v0 v1 u).bind fun q1 =>
(lp (gX0_above_14 v0 v2 u) FU (0, q1 &&& v2, 0)).bind fun e2 =>
some e2.2.1
/-- TrayBox$Box.lateOnes(II)I -/
def gX0_lateOnes_5 (v0 : Nat) (v1 : Int32) (v2 : Int32) (u : S) (a : Int32 × Int32) : Option ((Int32 × Int32) ⊕ (Int32 × Int32)) :=
if (u.1 (132 + v0) 4) ≤ a.2 then
(some (.inl (a.1, a.2)))
else
(if (v1 &&& (1 <<< (a.2 &&& 31))) = 0 then
(some (.inr (a.1, a.2 + 1)))
else
(gd (inb a.2 12) <|
if (u.1 (12 * v0 + a.2.toNatClampNeg) 3) ≤ v2 then
(some (.inr (a.1, a.2 + 1)))
else
(some (.inr (a.1 + 1, a.2 + 1)))))
def fX0_lateOnes (v0 : Nat) (v1 : Int32) (v2 : Int32) (u : S) : Option (Int32) :=
(lp (gX0_lateOnes_5 v0 v1 v2 u) FU (0, 0)).bind fun e1 =>
some e1.1
/-- TrayBox$Box.faultOf(I)I -/
def fX0_faultOf (v0 : Nat) (v1 : Int32) (u : S) : Option (Int32) :=
(fX0_inside v0 u).bind fun q1 =>
(fX0_above v0 v1 q1 u).bind fun q2 =>
gd (inb v1 12) <|
(fX0_lateOnes v0 q2 (u.1 (12 * v0 + v1.toNatClampNeg) 3) u).bind fun q4 =>
some q4
/-- TrayBox$Box.faults()I -/
def gX0_faults_9 (v0 : Nat) (v2 : Int32) (u : S) (a : Int32 × Int32) : Option ((Int32 × Int32) ⊕ (Int32 × Int32)) :=
if (u.1 (132 + v0) 4) ≤ a.2 then
(some (.inl (a.1, a.2)))
else
((fX0_above v0 a.2 v2 u).bind fun q102 =>
gd (inb a.2 12) <|
(fX0_lateOnes v0 q102 (u.1 (12 * v0 + a.2.toNatClampNeg) 3) u).bind fun q104 =>
some (.inr (a.1 + q104, a.2 + 1)))
def fX0_faults (v0 : Nat) (u : S) : Option (Int32) :=
(fX0_inside v0 u).bind fun q1 =>
(lp (gX0_faults_9 v0 q1 u) FU (0, 0)).bind fun e2 =>
some e2.1
/-- TrayBox$Box.lifts()I -/
def gX0_lifts_9 (v0 : Nat) (v2 : Int32) (u : S) (a : Int32 × Int32) : Option ((Int32 × Int32) ⊕ (Int32 × Int32)) :=
if (u.1 (132 + v0) 4) ≤ a.2 then
(some (.inl (a.1, a.2)))
else
((fX0_above v0 a.2 v2 u).bind fun q102 =>
(fJ6_bitCount_0f7a4 q102 u).bind fun q103 =>
some (.inr (a.1 + q103, a.2 + 1)))
def fX0_lifts (v0 : Nat) (u : S) : Option (Int32) :=
(fX0_inside v0 u).bind fun q1 =>
(lp (gX0_lifts_9 v0 q1 u) FU (0, 0)).bind fun e2 =>
some e2.1
/-- TrayBox$Box.freeTrays()I -/
def gX0_freeTrays_4 (v0 : Nat) (u : S) (a : Int32 × Int32) : Option ((Int32 × Int32) ⊕ (Int32 × Int32)) :=
if (u.1 (132 + v0) 4) ≤ a.2 then
(some (.inl (a.1, a.2)))
else
(gd (inb a.2 12) <|
if (u.1 (12 * v0 + a.2.toNatClampNeg) 5) = 0 then
(some (.inr (a.1, a.2 + 1)))
else
((fX0_isFree v0 a.2 u).bind fun q102 =>
if q102 = 0 then
(some (.inr (a.1, a.2 + 1)))
else
(some (.inr (a.1 + 1, a.2 + 1)))))
def fX0_freeTrays (v0 : Nat) (u : S) : Option (Int32) :=
(lp (gX0_freeTrays_4 v0 u) FU (0, 0)).bind fun e1 =>
some e1.1
/-- TrayBox$Box.filledHeight()I -/
def gX0_filledHeight_4 (v0 : Nat) (u : S) (a : Int32 × Int32) : Option ((Int32 × Int32) ⊕ (Int32 × Int32)) :=
if (u.1 (132 + v0) 4) ≤ a.2 then
(some (.inl (a.1, a.2)))
else
(gd (inb a.2 12) <|
if (u.1 (12 * v0 + a.2.toNatClampNeg) 5) = 0 then
(some (.inr (a.1, a.2 + 1)))
else
(gd (inb a.2 12) <|
some (.inr ((if a.1 < (u.1 (12 * v0 + a.2.toNatClampNeg) 12) then (u.1 (12 * v0 + a.2.toNatClampNeg) 12) else a.1), a.2 + 1))))
def fX0_filledHeight (v0 : Nat) (u : S) : Option (Int32) :=
(lp (gX0_filledHeight_4 v0 u) FU (0, 0)).bind fun e1 =>
some e1.1
/-- TrayBox$Tray.area()I -/
def fX5_area (v0 : Nat) (u : S) : Option (Int32) :=
some ((u.1 v0 0) * (u.1 v0 1))
/-- TrayBox$Box.air()I -/
def gX0_air_17 (v0 : Nat) (u : S) (a : Int32 × Int32) : Option ((Int32 × Int32) ⊕ (Int32 × Int32)) :=
if (u.1 (132 + v0) 4) ≤ a.2 then
(some (.inl (a.1, a.2)))
else
(gd (inb a.2 12) <|
if (u.1 (12 * v0 + a.2.toNatClampNeg) 5) = 0 then
(some (.inr (a.1, a.2 + 1)))
else
(gd (inb a.2 12) <|
(fX5_area (12 * v0 + a.2.toNatClampNeg) u).bind fun q104 =>
gd (inb a.2 12) <|
(fX5_tall (12 * v0 + a.2.toNatClampNeg) u).bind fun q106 =>
some (.inr (a.1 - (q104 * q106), a.2 + 1))))
def fX0_air (v0 : Nat) (u : S) : Option (Int32) :=
(fX0_filledHeight v0 u).bind fun q1 =>
(lp (gX0_air_17 v0 u) FU (((u.1 (132 + v0) 0) * (u.1 (132 + v0) 1)) * q1, 0)).bind fun e2 =>
some e2.1
/-- TrayBox$Box.playedLifts(I)I -/
def gX0_playedLifts_20 (v0 : Nat) (v1 : Int32) (v4 : Int32) (u : S) (a : Int32 × Int32 × Int32) : Option (((Int32) ⊕ (Int32 × Int32 × Int32)) ⊕ (Int32 × Int32 × Int32)) :=
if (u.1 (132 + v0) 4) ≤ a.2.2 then
(some (.inl (.inr (a.1, a.2.1, a.2.2))))
else
(gd (inb a.2.2 12) <|
if (u.1 (12 * v0 + a.2.2.toNatClampNeg) 3) = v4 then
(if (a.1 &&& (1 <<< (a.2.2 &&& 31))) = 0 then
(some (.inr (a.1, a.2.1, a.2.2 + 1)))
else
((fX0_above v0 a.2.2 a.1 u).bind fun q203 =>
(fJ6_bitCount_0f7a4 q203 u).bind fun q204 =>
if a.2.2 = v1 then
(some (.inl (.inl (a.2.1 + q204))))
else
(some (.inr (a.1 &&& ((1 <<< (a.2.2 &&& 31)) ^^^ (-1)), a.2.1 + q204, a.2.2 + 1)))))
else
(some (.inr (a.1, a.2.1, a.2.2 + 1))))
def gX0_playedLifts_10 (v0 : Nat) (v1 : Int32) (u : S) (a : Int32 × Int32 × Int32) : Option (((Int32) ⊕ (Int32 × Int32 × Int32)) ⊕ (Int32 × Int32 × Int32)) :=
if 9 < a.2.2 then
(some (.inl (.inr (a.1, a.2.1, a.2.2))))
else
((lp (gX0_playedLifts_20 v0 v1 a.2.2 u) FU (a.1, a.2.1, 0)).bind (Sum.elim (fun x => some (.inl (.inl x))) fun e102 =>
some (.inr (e102.1, e102.2.1, a.2.2 + 1))))
def fX0_playedLifts (v0 : Nat) (v1 : Int32) (u : S) : Option (Int32) :=
(fX0_inside v0 u).bind fun q1 =>
(lp (gX0_playedLifts_10 v0 v1 u) FU (q1, 0, 0)).bind (Sum.elim (fun x => some x) fun e2 =>
some e2.2.1)
/-- TrayBox$Finder.raise(LTrayBox$Box;LTrayBox$Tray;)V -/
def gX1_raise_47 (v0 : Nat) (v2 : Nat) (v3 : Int32) (a : Int32 × S) : Option ((Int32 × S) ⊕ (Int32 × S)) :=
if (a.2.1 v2 9) ≤ a.1 then
(some (.inl (a.1, a.2)))
else
(gd (inb ((v3 * 10) + a.1) 100) <|
gd (inb ((v3 * 10) + a.1) 100) <|
nm (up a.2 (156 + v0) ((v3 * 10) + a.1).toNatClampNeg (if (a.2.1 (156 + v0) ((v3 * 10) + a.1).toNatClampNeg) < (a.2.1 v2 12) then (a.2.1 v2 12) else (a.2.1 (156 + v0) ((v3 * 10) + a.1).toNatClampNeg))) fun u202 =>
some (.inr (a.1 + 1, u202)))
def gX1_raise_33 (v0 : Nat) (v2 : Nat) (a : Int32 × S) : Option ((Int32 × S) ⊕ (Int32 × S)) :=
if (a.2.1 v2 10) ≤ a.1 then
(some (.inl (a.1, a.2)))
else
((lp (gX1_raise_47 v0 v2 a.1) FU (a.2.1 v2 7, a.2)).bind fun e102 =>
some (.inr (a.1 + 1, e102.2)))
def fX1_raise (v0 : Nat) (v1 : Nat) (v2 : Nat) (u : S) : Option (S) :=
if (u.1 v2 5) = 0 then
(some u)
else
((fX0_encloses v1 v2 (u.1 v2 7) (u.1 v2 8) (u.1 v2 6) u).bind fun q1 =>
if q1 = 0 then
(some u)
else
((lp (gX1_raise_33 v0 v2) FU (u.1 v2 8, u)).bind fun e2 =>
some e2.2))
/-- TrayBox$Finder.survey(LTrayBox$Box;)V -/
def gX1_survey_2 (v0 : Nat) (a : Int32 × S) : Option ((Int32 × S) ⊕ (Int32 × S)) :=
if (Int32.ofNat 100) ≤ a.1 then
(some (.inl (a.1, a.2)))
else
(gd (inb a.1 100) <|
nm (up a.2 (156 + v0) a.1.toNatClampNeg 0) fun u101 =>
some (.inr (a.1 + 1, u101)))
def gX1_survey_26 (v0 : Nat) (v1 : Nat) (a : Int32 × S) : Option ((Int32 × S) ⊕ (Int32 × S)) :=
if (a.2.1 (132 + v1) 4) ≤ a.1 then
(some (.inl (a.1, a.2)))
else
(gd (inb a.1 12) <|
(fX1_raise v0 v1 (12 * v1 + a.1.toNatClampNeg) a.2).bind fun q104 =>
some (.inr (a.1 + 1, q104)))
def fX1_survey (v0 : Nat) (v1 : Nat) (u : S) : Option (S) :=
(lp (gX1_survey_2 v0) FU (0, u)).bind fun e1 =>
(lp (gX1_survey_26 v0 v1) FU (0, e1.2)).bind fun e3 =>
some e3.2
/-- TrayBox$Finder.holds(LTrayBox$Box;LTrayBox$Tray;IIZI)Z -/
def gX1_holds_60 (v0 : Nat) (v6 : Int32) (v7 : Int32) (v9 : Int32) (a : Int32 × S) : Option (((Int32 × S) ⊕ (Int32 × S)) ⊕ (Int32 × S)) :=
if v7 ≤ a.1 then
(some (.inl (.inr (a.1, a.2))))
else
(gd (inb ((v9 * 10) + a.1) 100) <|
if (a.2.1 (156 + v0) ((v9 * 10) + a.1).toNatClampNeg) ≤ v6 then
(if (a.2.1 (156 + v0) ((v9 * 10) + a.1).toNatClampNeg) ≤ (a.2.1 (154 + v0) 1) then
(if (a.2.1 (156 + v0) ((v9 * 10) + a.1).toNatClampNeg) = (a.2.1 (154 + v0) 1) then
(nm (up a.2 (154 + v0) 2 ((a.2.1 (154 + v0) 2) + 1)) fun u206 =>
some (.inr (a.1 + 1, u206)))
else
(some (.inr (a.1 + 1, a.2))))
else
(nm (up a.2 (154 + v0) 1 (a.2.1 (156 + v0) ((v9 * 10) + a.1).toNatClampNeg)) fun u207 =>
nm (up u207 (154 + v0) 2 1) fun u208 =>
some (.inr (a.1 + 1, u208))))
else
(some (.inl (.inl (0, a.2)))))
def gX1_holds_50 (v0 : Nat) (v3 : Int32) (v6 : Int32) (v7 : Int32) (v8 : Int32) (a : Int32 × S) : Option (((Int32 × S) ⊕ (Int32 × S)) ⊕ (Int32 × S)) :=
if v8 ≤ a.1 then
(some (.inl (.inr (a.1, a.2))))
else
((lp (gX1_holds_60 v0 v6 v7 a.1) FU (v3, a.2)).bind (Sum.elim (fun x => some (.inl (.inl x))) fun e106 =>
some (.inr (a.1 + 1, e106.2))))
def fX1_holds (v0 : Nat) (v1 : Nat) (v2 : Nat) (v3 : Int32) (v4 : Int32) (v5 : Int32) (v6 : Int32) (u : S) : Option (Int32 × S) :=
nm (up u (154 + v0) 1 0) fun u1 =>
nm (up u1 (154 + v0) 2 0) fun u2 =>
(fX0_encloses v1 v2 v3 v4 v5 u2).bind fun q3 =>
if q3 = 0 then
(some (0, u2))
else
((fX5_alongX v2 v5 u2).bind fun q4 =>
(fX5_alongY v2 v5 u2).bind fun q5 =>
(lp (gX1_holds_50 v0 v3 v6 (v3 + q4) (v4 + q5)) FU (v4, u2)).bind (Sum.elim (fun x => some x) fun e6 =>
(fX5_area v2 e6.2).bind fun q11 =>
if (100 * (e6.2.1 (154 + v0) 2)) < ((e6.2.1 (132 + v1) 3) * q11) then
(some (0, e6.2))
else
(some (1, e6.2))))
/-- TrayBox$Finder.keep(IIZ)V -/
def fX1_keep (v0 : Nat) (v1 : Int32) (v2 : Int32) (v3 : Int32) (u : S) : Option (S) :=
nm (up u (154 + v0) 3 ((u.1 (154 + v0) 3) + 1)) fun u1 =>
nm (up u1 (154 + v0) 4 v1) fun u2 =>
nm (up u2 (154 + v0) 5 v2) fun u3 =>
gd (isb v3) <| nm (up u3 (154 + v0) 6 v3) fun u4 =>
nm (up u4 (154 + v0) 7 (u4.1 (154 + v0) 1)) fun u5 =>
nm (up u5 (154 + v0) 8 (u5.1 (154 + v0) 2)) fun u6 =>
some u6
/-- TrayBox$Finder.search(LTrayBox$Box;LTrayBox$Tray;Z)V -/
def gX1_search_67 (v0 : Nat) (v1 : Nat) (v2 : Nat) (v3 : Int32) (v5 : Int32) (v6 : Int32) (v7 : Int32) (a : Int32 × Int32 × S) : Option ((Int32 × Int32 × S) ⊕ (Int32 × Int32 × S)) :=
if v5 ≤ a.2.1 then
(some (.inl (a.1, a.2.1, a.2.2)))
else
(if a.2.1 = 1 then
((fX1_holds v0 v1 v2 v7 v6 1 a.1 a.2.2).bind fun q306 =>
if q306.1 = 0 then
(some (.inr (a.1, a.2.1 + 1, q306.2)))
else
(if a.2.1 = 1 then
((fX1_keep v0 v7 v6 1 q306.2).bind fun q308 =>
if v3 = 0 then
(some (.inr (a.1, a.2.1 + 1, q308)))
else
(some (.inr ((q308.1 (154 + v0) 1) - 1, a.2.1 + 1, q308))))
else
((fX1_keep v0 v7 v6 0 q306.2).bind fun q307 =>
if v3 = 0 then
(some (.inr (a.1, a.2.1 + 1, q307)))
else
(some (.inr ((q307.1 (154 + v0) 1) - 1, a.2.1 + 1, q307))))))
else
((fX1_holds v0 v1 v2 v7 v6 0 a.1 a.2.2).bind fun q303 =>
if q303.1 = 0 then
(some (.inr (a.1, a.2.1 + 1, q303.2)))
else
(if a.2.1 = 1 then
((fX1_keep v0 v7 v6 1 q303.2).bind fun q305 =>
if v3 = 0 then
(some (.inr (a.1, a.2.1 + 1, q305)))
else
(some (.inr ((q305.1 (154 + v0) 1) - 1, a.2.1 + 1, q305))))
else
((fX1_keep v0 v7 v6 0 q303.2).bind fun q304 =>
if v3 = 0 then
(some (.inr (a.1, a.2.1 + 1, q304)))
else
(some (.inr ((q304.1 (154 + v0) 1) - 1, a.2.1 + 1, q304)))))))
def gX1_search_50 (v0 : Nat) (v1 : Nat) (v2 : Nat) (v3 : Int32) (v5 : Int32) (v6 : Int32) (a : Int32 × Int32 × S) : Option ((Int32 × Int32 × S) ⊕ (Int32 × Int32 × S)) :=
if (a.2.2.1 (132 + v1) 0) ≤ a.2.1 then
(some (.inl (a.1, a.2.1, a.2.2)))
else
(if a.1 < 0 then
(some (.inl (a.1, a.2.1, a.2.2)))
else
((lp (gX1_search_67 v0 v1 v2 v3 v5 v6 a.2.1) FU (a.1, 0, a.2.2)).bind fun e203 =>
some (.inr (e203.1, a.2.1 + 1, e203.2.2))))
def gX1_search_33 (v0 : Nat) (v1 : Nat) (v2 : Nat) (v3 : Int32) (v5 : Int32) (a : Int32 × Int32 × S) : Option ((Int32 × Int32 × S) ⊕ (Int32 × Int32 × S)) :=
if (a.2.2.1 (132 + v1) 1) ≤ a.2.1 then
(some (.inl (a.1, a.2.1, a.2.2)))
else
(if a.1 < 0 then
(some (.inl (a.1, a.2.1, a.2.2)))
else
((lp (gX1_search_50 v0 v1 v2 v3 v5 a.2.1) FU (a.1, 0, a.2.2)).bind fun e103 =>
some (.inr (e103.1, a.2.1 + 1, e103.2.2))))
def fX1_search (v0 : Nat) (v1 : Nat) (v2 : Nat) (v3 : Int32) (u : S) : Option (S) :=
nm (up u (154 + v0) 3 0) fun u1 =>
(fX0_highestFloor v1 v2 u1).bind fun q2 =>
if (u1.1 v2 0) = (u1.1 v2 1) then
((lp (gX1_search_33 v0 v1 v2 v3 1) FU (q2, 0, u1)).bind fun e12 =>
some e12.2.2)
else
((lp (gX1_search_33 v0 v1 v2 v3 2) FU (q2, 0, u1)).bind fun e3 =>
some e3.2.2)
/-- TrayBox$History.record(LTrayBox$Box;)V -/
def fX2_record (v1 : Nat) (u : S) : Option (S) :=
if (u.1 158 0) = 8 then
(nm (up u 158 1 (((u.1 158 1) + 1) % 8)) fun u4 =>
nm (up u4 158 0 ((u4.1 158 0) - 1)) fun u5 =>
gd (inb (((u5.1 158 1) + (u5.1 158 0)) % 8) 8) <|
(fX0_copyFrom (1 + (((u5.1 158 1) + (u5.1 158 0)) % 8).toNatClampNeg) v1 u5).bind fun q7 =>
nm (up q7 158 0 ((q7.1 158 0) + 1)) fun u8 =>
some u8)
else
(gd (inb (((u.1 158 1) + (u.1 158 0)) % 8) 8) <|
(fX0_copyFrom (1 + (((u.1 158 1) + (u.1 158 0)) % 8).toNatClampNeg) v1 u).bind fun q2 =>
nm (up q2 158 0 ((q2.1 158 0) + 1)) fun u3 =>
some u3)
/-- TrayBox$History.restore(LTrayBox$Box;)V -/
def fX2_restore (v1 : Nat) (u : S) : Option (S) :=
if (u.1 158 0) ≤ 0 then
(some u)
else
(nm (up u 158 0 ((u.1 158 0) - 1)) fun u1 =>
gd (inb (((u1.1 158 1) + (u1.1 158 0)) % 8) 8) <|
(fX0_copyFrom v1 (1 + (((u1.1 158 1) + (u1.1 158 0)) % 8).toNatClampNeg) u1).bind fun q3 =>
some q3)
/-- TrayBox$Packer.isBefore(LTrayBox$Tray;LTrayBox$Tray;)Z -/
def fX3_isBefore (v0 : Nat) (v1 : Nat) (u : S) : Option (Int32) :=
if (u.1 v1 3) < (u.1 v0 3) then
(some 1)
else
(if (u.1 v0 3) = (u.1 v1 3) then
((fX5_area v0 u).bind fun q1 =>
(fX5_area v1 u).bind fun q2 =>
if q1 ≤ q2 then
(some 0)
else
(some 1))
else
(some 0))
/-- TrayBox$Tray.lie(IIZII)V -/
def fX5_lie (v0 : Nat) (v1 : Int32) (v2 : Int32) (v3 : Int32) (v4 : Int32) (v5 : Int32) (u : S) : Option (S) :=
nm (up u v0 5 1) fun u1 =>
gd (isb v3) <| nm (up u1 v0 6 v3) fun u2 =>
nm (up u2 v0 7 v1) fun u3 =>
nm (up u3 v0 8 v2) fun u4 =>
(fX5_alongX v0 v3 u4).bind fun q5 =>
nm (up u4 v0 9 (v1 + q5)) fun u6 =>
(fX5_alongY v0 v3 u6).bind fun q7 =>
nm (up u6 v0 10 (v2 + q7)) fun u8 =>
nm (up u8 v0 11 v4) fun u9 =>
(fX5_tall v0 u9).bind fun q10 =>
nm (up u9 v0 12 (v4 + q10)) fun u11 =>
nm (up u11 v0 13 v5) fun u12 =>
some u12
/-- TrayBox$Packer.letDownFrom([II)V -/
def gX3_letDownFrom_2 (v1 : Nat) (a : Int32 × S) : Option ((Int32 × S) ⊕ (Int32 × S)) :=
if (a.2.1 (132 + 9) 4) ≤ a.1 then
(some (.inl (a.1, a.2)))
else
(gd (inb a.1 (ol v1)) <|
gd (inb (a.2.1 (163 + v1) a.1.toNatClampNeg) 12) <|
(fX5_leave (12 * 9 + (a.2.1 (163 + v1) a.1.toNatClampNeg).toNatClampNeg) a.2).bind fun q102 =>
some (.inr (a.1 + 1, q102)))
def gX3_letDownFrom_46 (v1 : Nat) (a : Int32 × S) : Option ((Int32 × S) ⊕ (Int32 × S)) :=
if (a.2.1 (132 + 9) 4) ≤ a.1 then
(some (.inl (a.1, a.2)))
else
(gd (inb a.1 (ol v1)) <|
gd (inb (a.2.1 (163 + v1) a.1.toNatClampNeg) 12) <|
(fX1_search 1 9 (12 * 9 + (a.2.1 (163 + v1) a.1.toNatClampNeg).toNatClampNeg) 1 a.2).bind fun q106 =>
if (q106.1 (154 + 1) 3) ≤ 0 then
(some (.inr (a.1 + 1, q106)))
else
((fX5_lie (12 * 9 + (a.2.1 (163 + v1) a.1.toNatClampNeg).toNatClampNeg) (q106.1 (154 + 1) 4) (q106.1 (154 + 1) 5) (q106.1 (154 + 1) 6) (q106.1 (154 + 1) 7) (q106.1 (154 + 1) 8) q106).bind fun q107 =>
(fX1_raise 1 9 (12 * 9 + (a.2.1 (163 + v1) a.1.toNatClampNeg).toNatClampNeg) q107).bind fun q108 =>
some (.inr (a.1 + 1, q108))))
def fX3_letDownFrom (v1 : Nat) (v2 : Int32) (u : S) : Option (S) :=
(lp (gX3_letDownFrom_2 v1) FU (v2, u)).bind fun e1 =>
(fX1_survey 1 9 e1.2).bind fun q4 =>
(lp (gX3_letDownFrom_46 v1) FU (v2, q4)).bind fun e5 =>
some e5.2
/-- TrayBox$Packer.measure([I)V -/
def fX3_measure (v1 : Nat) (u : S) : Option (S) :=
(fX0_inside 9 u).bind fun q1 =>
(fJ6_bitCount_0f7a4 q1 u).bind fun q2 =>
gd (inb 0 (ol v1)) <|
nm (up u (163 + v1) (0 : Int32).toNatClampNeg ((u.1 (132 + 9) 4) - q2)) fun u3 =>
(fX0_faults 9 u3).bind fun q4 =>
gd (inb 1 (ol v1)) <|
nm (up u3 (163 + v1) (1 : Int32).toNatClampNeg q4) fun u5 =>
(fX0_filledHeight 9 u5).bind fun q6 =>
gd (inb 2 (ol v1)) <|
nm (up u5 (163 + v1) (2 : Int32).toNatClampNeg q6) fun u7 =>
(fX0_air 9 u7).bind fun q8 =>
gd (inb 3 (ol v1)) <|
nm (up u7 (163 + v1) (3 : Int32).toNatClampNeg q8) fun u9 =>
some u9
/-- TrayBox$Packer.packUsually(LTrayBox$Box;)V -/
def gX3_packUsually_23 (v2 : Int32) (a : Int32 × S) : Option ((Int32 × S) ⊕ (Int32 × S)) :=
if a.1 ≤ 0 then
(some (.inl (a.1, a.2)))
else
(gd (inb v2 12) <|
gd (inb (a.1 - 1) 12) <|
gd (inb (a.2.1 (163 + 0) (a.1 - 1).toNatClampNeg) 12) <|
(fX3_isBefore (12 * 9 + v2.toNatClampNeg) (12 * 9 + (a.2.1 (163 + 0) (a.1 - 1).toNatClampNeg).toNatClampNeg) a.2).bind fun q204 =>
if q204 = 0 then
(some (.inl (a.1, a.2)))
else
(gd (inb (a.1 - 1) 12) <|
gd (inb a.1 12) <|
nm (up a.2 (163 + 0) a.1.toNatClampNeg (a.2.1 (163 + 0) (a.1 - 1).toNatClampNeg)) fun u205 =>
some (.inr (a.1 + (-1), u205))))
def gX3_packUsually_10  (a : Int32 × S) : Option ((Int32 × S) ⊕ (Int32 × S)) :=
if (a.2.1 (132 + 9) 4) ≤ a.1 then
(some (.inl (a.1, a.2)))
else
((lp (gX3_packUsually_23 a.1) FU (a.1, a.2)).bind fun e102 =>
gd (inb e102.1 12) <|
nm (up e102.2 (163 + 0) e102.1.toNatClampNeg a.1) fun u107 =>
some (.inr (a.1 + 1, u107)))
def fX3_packUsually (v1 : Nat) (u : S) : Option (S) :=
(fX0_copyFrom 9 v1 u).bind fun q1 =>
(lp (gX3_packUsually_10 ) FU (0, q1)).bind fun e2 =>
(fX3_letDownFrom 0 0 e2.2).bind fun q9 =>
(fX3_measure 1 q9).bind fun q10 =>
some q10
/-- TrayBox$Packer.isTriedBetter()Z -/
def gX3_isTriedBetter_2  (u : S) (a : Int32) : Option (((Int32) ⊕ (Int32)) ⊕ (Int32)) :=
if 4 ≤ a then
(some (.inl (.inr a)))
else
(gd (inb a 4) <|
gd (inb a 4) <|
if (u.1 (163 + 3) a.toNatClampNeg) = (u.1 (163 + 1) a.toNatClampNeg) then
(some (.inr (a + 1)))
else
(gd (inb a 4) <|
gd (inb a 4) <|
if (u.1 (163 + 1) a.toNatClampNeg) ≤ (u.1 (163 + 3) a.toNatClampNeg) then
(some (.inl (.inl 0)))
else
(some (.inl (.inl 1)))))
def fX3_isTriedBetter  (u : S) : Option (Int32) :=
(lp (gX3_isTriedBetter_2  u) FU 0).bind (Sum.elim (fun x => some x) fun e1 =>
some 0)
/-- TrayBox$Packer.swap(II)V -/
def fX3_swap (v1 : Int32) (v2 : Int32) (u : S) : Option (S) :=
gd (inb v1 12) <|
gd (inb v2 12) <|
gd (inb v1 12) <|
nm (up u (163 + 2) v1.toNatClampNeg (u.1 (163 + 2) v2.toNatClampNeg)) fun u1 =>
gd (inb v2 12) <|
nm (up u1 (163 + 2) v2.toNatClampNeg (u.1 (163 + 2) v1.toNatClampNeg)) fun u2 =>
some u2
/-- TrayBox$Packer.stepToNextOrder()I -/
def gX3_stepToNextOrder_10  (u : S) (a : Int32) : Option ((Int32) ⊕ (Int32)) :=
if a < 0 then
(some (.inl a))
else
(gd (inb a 12) <|
gd (inb (a + 1) 12) <|
if (u.1 (163 + 2) a.toNatClampNeg) ≤ (u.1 (163 + 2) (a + 1).toNatClampNeg) then
(some (.inl a))
else
(some (.inr (a + (-1)))))
def gX3_stepToNextOrder_54 (v1 : Int32) (u : S) (a : Int32) : Option ((Int32) ⊕ (Int32)) :=
if a ≤ v1 then
(some (.inl a))
else
(gd (inb a 12) <|
gd (inb v1 12) <|
if (u.1 (163 + 2) v1.toNatClampNeg) ≤ (u.1 (163 + 2) a.toNatClampNeg) then
(some (.inl a))
else
(some (.inr (a + (-1)))))
def gX3_stepToNextOrder_101  (a : Int32 × Int32 × S) : Option ((Int32 × Int32 × S) ⊕ (Int32 × Int32 × S)) :=
if a.2.1 ≤ a.1 then
(some (.inl (a.1, a.2.1, a.2.2)))
else
((fX3_swap a.1 a.2.1 a.2.2).bind fun q104 =>
some (.inr (a.1 + 1, a.2.1 + (-1), q104)))
def fX3_stepToNextOrder  (u : S) : Option (Int32 × S) :=
(lp (gX3_stepToNextOrder_10  u) FU ((u.1 (132 + 9) 4) - 2)).bind fun e1 =>
if 0 ≤ e1 then
((lp (gX3_stepToNextOrder_54 e1 u) FU ((u.1 (132 + 9) 4) - 1)).bind fun e2 =>
(fX3_swap e1 e2 u).bind fun q3 =>
(lp (gX3_stepToNextOrder_101 ) FU (e1 + 1, (q3.1 (132 + 9) 4) - 1, q3)).bind fun e4 =>
some (e1, e4.2.2))
else
(some ((-9), u))
/-- TrayBox$Packer.packByBest(LTrayBox$Box;)V -/
def gX3_packByBest_10  (a : Int32 × S) : Option ((Int32 × S) ⊕ (Int32 × S)) :=
if (a.2.1 (132 + 9) 4) ≤ a.1 then
(some (.inl (a.1, a.2)))
else
(gd (inb a.1 12) <|
nm (up a.2 (163 + 2) a.1.toNatClampNeg a.1) fun u102 =>
some (.inr (a.1 + 1, u102)))
def gX3_packByBest_38  (a : Int32 × Int32 × S) : Option ((Int32 × Int32 × S) ⊕ (Int32 × Int32 × S)) :=
if 120 ≤ a.2.1 then
(some (.inl (a.1, a.2.1, a.2.2)))
else
(if a.1 < 0 then
(some (.inl (a.1, a.2.1, a.2.2)))
else
((fX3_letDownFrom 2 a.1 a.2.2).bind fun q104 =>
(fX3_measure 3 q104).bind fun q105 =>
if a.2.1 = 0 then
(nm (cpA q105 (163 + 2) (163 + 0) 12) fun u106 =>
nm (cpA u106 (163 + 3) (163 + 1) 4) fun u107 =>
(fX3_stepToNextOrder u107).bind fun q108 =>
some (.inr (q108.1, a.2.1 + 1, q108.2)))
else
((fX3_isTriedBetter q105).bind fun q109 =>
if q109 = 0 then
((fX3_stepToNextOrder q105).bind fun q110 =>
some (.inr (q110.1, a.2.1 + 1, q110.2)))
else
(nm (cpA q105 (163 + 2) (163 + 0) 12) fun u111 =>
nm (cpA u111 (163 + 3) (163 + 1) 4) fun u112 =>
(fX3_stepToNextOrder u112).bind fun q113 =>
some (.inr (q113.1, a.2.1 + 1, q113.2))))))
def fX3_packByBest (v1 : Nat) (u : S) : Option (S) :=
(fX0_copyFrom 9 v1 u).bind fun q1 =>
(lp (gX3_packByBest_10 ) FU (0, q1)).bind fun e2 =>
(lp (gX3_packByBest_38 ) FU (0, 0, e2.2)).bind fun e4 =>
(fX3_letDownFrom 0 0 e4.2.2).bind fun q15 =>
some q15
/-- TrayBox$Text.append(C)V -/
def fX4_append (v1 : Int32) (u : S) : Option (S) :=
if 100 ≤ (u.1 160 0) then
(some u)
else
(gd (inb (u.1 160 0) 100) <|
nm (up u 161 (u.1 160 0).toNatClampNeg (vp_nar .char v1)) fun u1 =>
nm (up u1 160 0 ((u1.1 160 0) + 1)) fun u2 =>
some u2)
/-- TrayBox$Text.next()C -/
def fX4_next  (u : S) : Option (Int32) :=
if (u.1 160 0) ≤ (u.1 160 4) then
(gd (vp_nar .char 0 == 0) <| some 0)
else
(if 100 ≤ (u.1 160 4) then
(gd (vp_nar .char 0 == 0) <| some 0)
else
(gd (inb (u.1 160 4) 100) <|
gd (vp_nar .char (u.1 161 (u.1 160 4).toNatClampNeg) == (u.1 161 (u.1 160 4).toNatClampNeg)) <| some (u.1 161 (u.1 160 4).toNatClampNeg)))
/-- TrayBox$Text.isDigit(C)Z -/
def fX4_isDigit (v0 : Int32) (u : S) : Option (Int32) :=
if v0 < 48 then
(some 0)
else
(if 57 < v0 then
(some 0)
else
(some 1))
/-- TrayBox$Text.fail(II)Z -/
def fX4_fail (v1 : Int32) (v2 : Int32) (u : S) : Option (Int32 × S) :=
nm (up u 160 1 v1) fun u1 =>
nm (up u1 160 4 v2) fun u2 =>
some (0, u2)
/-- TrayBox.isWithin(III)Z -/
def fX6_isWithin (v0 : Int32) (v1 : Int32) (v2 : Int32) (u : S) : Option (Int32) :=
if v0 < v1 then
(some 0)
else
(if v2 < v0 then
(some 0)
else
(some 1))
/-- TrayBox$Text.readNumber(I)Z -/
def gX4_readNumber_10 (v2 : Int32) (a : S) : Option ((S) ⊕ (S)) :=
if (v2 + 2) ≤ (a.1 160 4) then
(some (.inl a))
else
((fX4_next a).bind fun q102 =>
(fX4_isDigit q102 a).bind fun q103 =>
if q103 = 0 then
(some (.inl a))
else
((fX4_next a).bind fun q104 =>
nm (up a 160 5 (((10 * (a.1 160 5)) + q104) - 48)) fun u105 =>
nm (up u105 160 4 ((u105.1 160 4) + 1)) fun u106 =>
some (.inr u106)))
def fX4_readNumber (v1 : Int32) (u : S) : Option (Int32 × S) :=
nm (up u 160 5 0) fun u1 =>
(lp (gX4_readNumber_10 (u.1 160 4)) FU u1).bind fun e2 =>
if (e2.1 160 4) = (u.1 160 4) then
((fX4_fail 1 (e2.1 160 4) e2).bind fun q8 =>
gd (isb q8.1) <| some (q8.1, q8.2))
else
((fX4_next e2).bind fun q9 =>
(fX4_isDigit q9 e2).bind fun q10 =>
if q10 = 0 then
((fX6_isWithin (e2.1 160 5) 1 v1 e2).bind fun q11 =>
if q11 = 0 then
((fX4_fail 2 (u.1 160 4) e2).bind fun q12 =>
if q12.1 = 0 then
(some (0, q12.2))
else
(some (1, q12.2)))
else
(some (1, e2)))
else
((fX4_fail 1 (e2.1 160 4) e2).bind fun q13 =>
gd (isb q13.1) <| some (q13.1, q13.2)))
/-- TrayBox$Text.readSign(C)Z -/
def fX4_readSign (v1 : Int32) (u : S) : Option (Int32 × S) :=
(fX4_next u).bind fun q1 =>
if q1 = v1 then
(nm (up u 160 4 ((u.1 160 4) + 1)) fun u2 =>
some (1, u2))
else
((fX4_fail 1 (u.1 160 4) u).bind fun q3 =>
gd (isb q3.1) <| some (q3.1, q3.2))
/-- TrayBox$Tray.become(IIII)V -/
def fX5_become (v0 : Nat) (v1 : Int32) (v2 : Int32) (v3 : Int32) (v4 : Int32) (u : S) : Option (S) :=
nm (up u v0 0 v1) fun u1 =>
nm (up u1 v0 1 v2) fun u2 =>
nm (up u2 v0 2 v3) fun u3 =>
nm (up u3 v0 3 v4) fun u4 =>
nm (up u4 v0 4 0) fun u5 =>
(fX5_leave v0 u5).bind fun q6 =>
some q6
/-- TrayBox$Text.readLid(LTrayBox$Tray;)Z -/
def fX4_readLid (v1 : Nat) (u : S) : Option (Int32 × S) :=
(fX4_next u).bind fun q1 =>
if q1 = 108 then
(nm (up u 160 4 ((u.1 160 4) + 1)) fun u2 =>
nm (up u2 v1 4 1) fun u3 =>
some (1, u3))
else
(some (1, u))
/-- TrayBox$Text.readTurn(LTrayBox$Tray;)Z -/
def fX4_readTurn (v1 : Nat) (u : S) : Option (Int32 × S) :=
(fX4_next u).bind fun q1 =>
if q1 = 64 then
(nm (up u 160 4 ((u.1 160 4) + 1)) fun u2 =>
(fX4_next u2).bind fun q3 =>
(fX4_isDigit q3 u2).bind fun q4 =>
if q4 = 0 then
((fX4_fail 1 (u2.1 160 4) u2).bind fun q8 =>
gd (isb q8.1) <| some (q8.1, q8.2))
else
((fX4_next u2).bind fun q5 =>
nm (up u2 v1 3 (q5 - 48)) fun u6 =>
nm (up u6 160 4 ((u6.1 160 4) + 1)) fun u7 =>
some (1, u7)))
else
(some (1, u))
/-- TrayBox$Text.readTray()Z -/
def fX4_readTray  (u : S) : Option (Int32 × S) :=
if (u.1 (132 + 10) 4) < 12 then
((fX4_readNumber 10 u).bind fun q1 =>
if q1.1 = 0 then
(some (0, q1.2))
else
((fX4_readSign 120 q1.2).bind fun q2 =>
if q2.1 = 0 then
(some (0, q2.2))
else
((fX4_readNumber 10 q2.2).bind fun q3 =>
if q3.1 = 0 then
(some (0, q3.2))
else
((fX4_readSign 120 q3.2).bind fun q4 =>
if q4.1 = 0 then
(some (0, q4.2))
else
((fX4_readNumber 9 q4.2).bind fun q5 =>
if q5.1 = 0 then
(some (0, q5.2))
else
(gd (inb (q5.2.1 (132 + 10) 4) 12) <|
(fX5_become (12 * 10 + (q5.2.1 (132 + 10) 4).toNatClampNeg) (q1.2.1 160 5) (q3.2.1 160 5) (q5.2.1 160 5) 0 q5.2).bind fun q7 =>
(fX4_readLid (12 * 10 + (q5.2.1 (132 + 10) 4).toNatClampNeg) q7).bind fun q8 =>
if q8.1 = 0 then
(some (0, q8.2))
else
((fX4_readTurn (12 * 10 + (q5.2.1 (132 + 10) 4).toNatClampNeg) q8.2).bind fun q9 =>
if q9.1 = 0 then
(some (0, q9.2))
else
((fX4_readSign 59 q9.2).bind fun q10 =>
if q10.1 = 0 then
(some (0, q10.2))
else
(some (1, q10.2))))))))))
else
((fX4_next u).bind fun q11 =>
(fX4_isDigit q11 u).bind fun q12 =>
if q12 = 0 then
((fX4_fail 1 (u.1 160 4) u).bind fun q13 =>
gd (isb q13.1) <| some (q13.1, q13.2))
else
((fX4_fail 3 (u.1 160 4) u).bind fun q14 =>
gd (isb q14.1) <| some (q14.1, q14.2)))
/-- TrayBox$Text.read()I -/
def gX4_read_20  (a : Int32 × S) : Option ((Int32 × S) ⊕ (Int32 × S)) :=
if 12 < a.1 then
(some (.inl (a.1, a.2)))
else
(if (a.2.1 160 0) ≤ (a.2.1 160 4) then
(some (.inl (a.1, a.2)))
else
(if (a.2.1 160 1) = 0 then
((fX4_readTray a.2).bind fun q104 =>
if q104.1 = 0 then
(some (.inr (a.1 + 1, q104.2)))
else
(nm (up q104.2 (132 + 10) 4 ((q104.2.1 (132 + 10) 4) + 1)) fun u105 =>
some (.inr (a.1 + 1, u105))))
else
(some (.inl (a.1, a.2)))))
def fX4_read  (u : S) : Option (Int32 × S) :=
nm (up u 160 1 0) fun u1 =>
nm (up u1 160 4 0) fun u2 =>
nm (up u2 (132 + 10) 4 0) fun u3 =>
(lp (gX4_read_20 ) FU (0, u3)).bind fun e4 =>
if (e4.2.1 160 1) = 0 then
(some (e4.2.1 (132 + 10) 4, e4.2))
else
(some ((-10) - (e4.2.1 160 4), e4.2))
/-- TrayBox$Tray.property(I)I -/
def fX5_property (v0 : Nat) (v1 : Int32) (u : S) : Option (Int32) :=
if v1 = 0 then
(some (u.1 v0 0))
else
(if v1 = 1 then
(some (u.1 v0 1))
else
(if v1 = 2 then
(some (u.1 v0 2))
else
(if v1 = 3 then
(some (u.1 v0 3))
else
(if v1 = 4 then
(some (u.1 v0 4))
else
(if v1 = 5 then
(if (u.1 v0 5) = 0 then
(some 0)
else
(some 1))
else
(if (u.1 v0 6) = 0 then
(some 0)
else
(some 1)))))))
/-- TrayBox.setBox(III)I -/
def fX6_setBox (v1 : Int32) (v2 : Int32) (v3 : Int32) (u : S) : Option (Int32 × S) :=
(fX6_isWithin v1 2 10 u).bind fun q1 =>
if q1 = 0 then
(some ((-1), u))
else
((fX6_isWithin v2 2 10 u).bind fun q2 =>
if q2 = 0 then
(some ((-1), u))
else
((fX6_isWithin v3 1 30 u).bind fun q3 =>
if q3 = 0 then
(some ((-1), u))
else
((fX0_inside 0 u).bind fun q4 =>
(fJ6_bitCount_0f7a4 q4 u).bind fun q5 =>
(fX2_record 0 u).bind fun q6 =>
(fX0_clear 0 q6).bind fun q7 =>
nm (up q7 (132 + 0) 0 v1) fun u8 =>
nm (up u8 (132 + 0) 1 v2) fun u9 =>
nm (up u9 (132 + 0) 2 v3) fun u10 =>
some (q5, u10))))
/-- TrayBox.setShare(I)I -/
def fX6_setShare (v1 : Int32) (u : S) : Option (Int32 × S) :=
(fX6_isWithin v1 0 100 u).bind fun q1 =>
if q1 = 0 then
(some ((-1), u))
else
((fX2_record 0 u).bind fun q2 =>
nm (up q2 (132 + 0) 3 v1) fun u3 =>
some (u.1 (132 + 0) 3, u3))
/-- TrayBox.type(I)I -/
def fX6_type (v1 : Int32) (u : S) : Option (Int32 × S) :=
(fX6_isWithin v1 32 126 u).bind fun q1 =>
if q1 = 0 then
(some ((-1), u))
else
(if (u.1 160 0) < 100 then
((fX4_append ((v1.toUInt32 % 65536).toInt32) u).bind fun q2 =>
some (q2.1 160 0, q2))
else
(some ((-3), u)))
/-- TrayBox.clearText()I -/
def fX6_clearText  (u : S) : Option (Int32 × S) :=
nm (up u 160 0 0) fun u1 =>
some (u.1 160 0, u1)
/-- TrayBox.load()I -/
def fX6_load  (u : S) : Option (Int32 × S) :=
(fX4_read u).bind fun q1 =>
if q1.1 < 0 then
(some (q1.1, q1.2))
else
((fX2_record 0 q1.2).bind fun q2 =>
(fX0_copyTrays 0 10 q2).bind fun q3 =>
some (q1.1, q3))
/-- TrayBox.faultKind()I -/
def fX6_faultKind  (u : S) : Option (Int32) :=
some (u.1 160 1)
/-- TrayBox.add(IIII)I -/
def fX6_add (v1 : Int32) (v2 : Int32) (v3 : Int32) (v4 : Int32) (u : S) : Option (Int32 × S) :=
(fX6_isWithin v1 1 10 u).bind fun q1 =>
if q1 = 0 then
(some ((-1), u))
else
((fX6_isWithin v2 1 10 u).bind fun q2 =>
if q2 = 0 then
(some ((-1), u))
else
((fX6_isWithin v3 1 9 u).bind fun q3 =>
if q3 = 0 then
(some ((-1), u))
else
((fX6_isWithin v4 0 9 u).bind fun q4 =>
if q4 = 0 then
(some ((-1), u))
else
(if (u.1 (132 + 0) 4) < 12 then
((fX2_record 0 u).bind fun q5 =>
gd (inb (q5.1 (132 + 0) 4) 12) <|
(fX5_become (12 * 0 + (q5.1 (132 + 0) 4).toNatClampNeg) v1 v2 v3 v4 q5).bind fun q7 =>
nm (up q7 (132 + 0) 4 ((q7.1 (132 + 0) 4) + 1)) fun u8 =>
some ((u8.1 (132 + 0) 4) - 1, u8))
else
(some ((-3), u))))))
/-- TrayBox.drop(I)I -/
def fX6_drop (v1 : Int32) (u : S) : Option (Int32 × S) :=
(fX0_has 0 v1 u).bind fun q1 =>
if q1 = 0 then
(some ((-1), u))
else
(gd (inb v1 12) <|
if (u.1 (12 * 0 + v1.toNatClampNeg) 5) = 0 then
((fX2_record 0 u).bind fun q3 =>
(fX0_remove 0 v1 q3).bind fun q4 =>
some (q4.1 (132 + 0) 4, q4))
else
(some ((-2), u)))
/-- TrayBox.setTray(III)I -/
def fX6_setTray (v1 : Int32) (v2 : Int32) (v3 : Int32) (u : S) : Option (Int32 × S) :=
(fX0_has 0 v1 u).bind fun q1 =>
if q1 = 0 then
(some ((-1), u))
else
((fX6_isWithin v2 0 1 u).bind fun q2 =>
if q2 = 0 then
(some ((-1), u))
else
(if v2 = 0 then
((fX6_isWithin v3 0 9 u).bind fun q17 =>
if q17 = 0 then
(some ((-1), u))
else
(gd (inb v1 12) <|
if v2 = 1 then
(if (u.1 (12 * 0 + v1.toNatClampNeg) 5) = 0 then
(if v2 = 0 then
((fX2_record 0 u).bind fun q28 =>
if v2 = 0 then
(nm (up q28 (12 * 0 + v1.toNatClampNeg) 3 v3) fun u30 =>
some (u.1 (12 * 0 + v1.toNatClampNeg) 3, u30))
else
(nm (up q28 (12 * 0 + v1.toNatClampNeg) 4 v3) fun u29 =>
some (u.1 (12 * 0 + v1.toNatClampNeg) 3, u29)))
else
((fX2_record 0 u).bind fun q25 =>
if v2 = 0 then
(nm (up q25 (12 * 0 + v1.toNatClampNeg) 3 v3) fun u27 =>
some (u.1 (12 * 0 + v1.toNatClampNeg) 4, u27))
else
(nm (up q25 (12 * 0 + v1.toNatClampNeg) 4 v3) fun u26 =>
some (u.1 (12 * 0 + v1.toNatClampNeg) 4, u26))))
else
(some ((-2), u)))
else
(if v2 = 0 then
((fX2_record 0 u).bind fun q22 =>
if v2 = 0 then
(nm (up q22 (12 * 0 + v1.toNatClampNeg) 3 v3) fun u24 =>
some (u.1 (12 * 0 + v1.toNatClampNeg) 3, u24))
else
(nm (up q22 (12 * 0 + v1.toNatClampNeg) 4 v3) fun u23 =>
some (u.1 (12 * 0 + v1.toNatClampNeg) 3, u23)))
else
((fX2_record 0 u).bind fun q19 =>
if v2 = 0 then
(nm (up q19 (12 * 0 + v1.toNatClampNeg) 3 v3) fun u21 =>
some (u.1 (12 * 0 + v1.toNatClampNeg) 4, u21))
else
(nm (up q19 (12 * 0 + v1.toNatClampNeg) 4 v3) fun u20 =>
some (u.1 (12 * 0 + v1.toNatClampNeg) 4, u20))))))
else
((fX6_isWithin v3 0 1 u).bind fun q3 =>
if q3 = 0 then
(some ((-1), u))
else
(gd (inb v1 12) <|
if v2 = 1 then
(if (u.1 (12 * 0 + v1.toNatClampNeg) 5) = 0 then
(if v2 = 0 then
((fX2_record 0 u).bind fun q14 =>
if v2 = 0 then
(nm (up q14 (12 * 0 + v1.toNatClampNeg) 3 v3) fun u16 =>
some (u.1 (12 * 0 + v1.toNatClampNeg) 3, u16))
else
(nm (up q14 (12 * 0 + v1.toNatClampNeg) 4 v3) fun u15 =>
some (u.1 (12 * 0 + v1.toNatClampNeg) 3, u15)))
else
((fX2_record 0 u).bind fun q11 =>
if v2 = 0 then
(nm (up q11 (12 * 0 + v1.toNatClampNeg) 3 v3) fun u13 =>
some (u.1 (12 * 0 + v1.toNatClampNeg) 4, u13))
else
(nm (up q11 (12 * 0 + v1.toNatClampNeg) 4 v3) fun u12 =>
some (u.1 (12 * 0 + v1.toNatClampNeg) 4, u12))))
else
(some ((-2), u)))
else
(if v2 = 0 then
((fX2_record 0 u).bind fun q8 =>
if v2 = 0 then
(nm (up q8 (12 * 0 + v1.toNatClampNeg) 3 v3) fun u10 =>
some (u.1 (12 * 0 + v1.toNatClampNeg) 3, u10))
else
(nm (up q8 (12 * 0 + v1.toNatClampNeg) 4 v3) fun u9 =>
some (u.1 (12 * 0 + v1.toNatClampNeg) 3, u9)))
else
((fX2_record 0 u).bind fun q5 =>
if v2 = 0 then
(nm (up q5 (12 * 0 + v1.toNatClampNeg) 3 v3) fun u7 =>
some (u.1 (12 * 0 + v1.toNatClampNeg) 4, u7))
else
(nm (up q5 (12 * 0 + v1.toNatClampNeg) 4 v3) fun u6 =>
some (u.1 (12 * 0 + v1.toNatClampNeg) 4, u6))))))))
/-- TrayBox.letDown(IIIZ)I -/
def fX6_letDown (v1 : Int32) (v2 : Int32) (v3 : Int32) (v4 : Int32) (u : S) : Option (Int32 × S) :=
(fX0_has 0 v1 u).bind fun q1 =>
if q1 = 0 then
(some ((-1), u))
else
(gd (inb v1 12) <|
(fX0_encloses 0 (12 * 0 + v1.toNatClampNeg) v2 v3 v4 u).bind fun q3 =>
if q3 = 0 then
(some ((-1), u))
else
(gd (inb v1 12) <|
if (u.1 (12 * 0 + v1.toNatClampNeg) 5) = 0 then
((fX1_survey 0 0 u).bind fun q5 =>
(fX0_highestFloor 0 (12 * 0 + v1.toNatClampNeg) q5).bind fun q6 =>
(fX1_holds 0 0 (12 * 0 + v1.toNatClampNeg) v2 v3 v4 q6 q5).bind fun q7 =>
if q7.1 = 0 then
(some ((-3), q7.2))
else
((fX2_record 0 q7.2).bind fun q8 =>
(fX5_lie (12 * 0 + v1.toNatClampNeg) v2 v3 v4 (q8.1 (154 + 0) 1) (q8.1 (154 + 0) 2) q8).bind fun q9 =>
some (q9.1 (12 * 0 + v1.toNatClampNeg) 11, q9)))
else
(some ((-2), u))))
/-- TrayBox.takeOut(I)I -/
def fX6_takeOut (v1 : Int32) (u : S) : Option (Int32 × S) :=
(fX0_has 0 v1 u).bind fun q1 =>
if q1 = 0 then
(some ((-1), u))
else
(gd (inb v1 12) <|
if (u.1 (12 * 0 + v1.toNatClampNeg) 5) = 0 then
(some ((-2), u))
else
((fX0_isFree 0 v1 u).bind fun q3 =>
if q3 = 0 then
(some ((-2), u))
else
((fX2_record 0 u).bind fun q4 =>
(fX5_leave (12 * 0 + v1.toNatClampNeg) q4).bind fun q5 =>
some (q5.1 (12 * 0 + v1.toNatClampNeg) 11, q5))))
/-- TrayBox.empty()I -/
def fX6_empty  (u : S) : Option (Int32 × S) :=
(fX0_inside 0 u).bind fun q1 =>
(fJ6_bitCount_0f7a4 q1 u).bind fun q2 =>
(fX2_record 0 u).bind fun q3 =>
(fX0_clear 0 q3).bind fun q4 =>
some (q2, q4)
/-- TrayBox.placedProperty(II)I -/
def fX6_placedProperty (v1 : Int32) (v2 : Int32) (u : S) : Option (Int32) :=
gd (inb v1 12) <|
if v2 = 7 then
(some (u.1 (12 * 0 + v1.toNatClampNeg) 7))
else
(if v2 = 8 then
(some (u.1 (12 * 0 + v1.toNatClampNeg) 8))
else
(if v2 = 9 then
(some (u.1 (12 * 0 + v1.toNatClampNeg) 11))
else
(if v2 = 10 then
(some (u.1 (12 * 0 + v1.toNatClampNeg) 12))
else
(if v2 = 11 then
((fX0_inside 0 u).bind fun q2 =>
(fX0_above 0 v1 q2 u).bind fun q3 =>
(fJ6_bitCount_0f7a4 q3 u).bind fun q4 =>
some q4)
else
(if v2 = 12 then
((fX0_faultOf 0 v1 u).bind fun q5 =>
some q5)
else
(if v2 = 13 then
((fX0_isFree 0 v1 u).bind fun q6 =>
if q6 = 0 then
(some 0)
else
(some 1))
else
(if v2 = 14 then
((fX0_inside 0 u).bind fun q7 =>
(fX0_above 0 v1 q7 u).bind fun q8 =>
some q8)
else
(some (u.1 (12 * 0 + v1.toNatClampNeg) 13)))))))))
/-- TrayBox.tray(II)I -/
def fX6_tray (v1 : Int32) (v2 : Int32) (u : S) : Option (Int32) :=
(fX0_has 0 v1 u).bind fun q1 =>
if q1 = 0 then
(some (-1))
else
((fX6_isWithin v2 0 15 u).bind fun q2 =>
if q2 = 0 then
(some (-1))
else
(if 7 ≤ v2 then
(gd (inb v1 12) <|
if (u.1 (12 * 0 + v1.toNatClampNeg) 5) = 0 then
(some (-9))
else
((fX6_placedProperty v1 v2 u).bind fun q4 =>
some q4))
else
(gd (inb v1 12) <|
(fX5_property (12 * 0 + v1.toNatClampNeg) v2 u).bind fun q6 =>
some q6)))
/-- TrayBox.seen(IIZ)I -/
def fX6_seen (v1 : Int32) (v2 : Int32) (v3 : Int32) (u : S) : Option (Int32) :=
(fX6_isWithin v1 0 ((u.1 (132 + 0) 0) - 1) u).bind fun q1 =>
if q1 = 0 then
(some (-1))
else
((fX6_isWithin v2 0 ((u.1 (132 + 0) 1) - 1) u).bind fun q2 =>
if q2 = 0 then
(some (-1))
else
((fX0_uppermost 0 v1 v2 u).bind fun q3 =>
(fX0_has 0 q3 u).bind fun q4 =>
if q4 = 0 then
(if v3 = 0 then
(some (-9))
else
(some 0))
else
(if v3 = 0 then
(some q3)
else
(gd (inb q3 12) <|
some (u.1 (12 * 0 + q3.toNatClampNeg) 12)))))
/-- TrayBox.place(II)I -/
def fX6_place (v1 : Int32) (v2 : Int32) (u : S) : Option (Int32 × S) :=
(fX0_has 0 v1 u).bind fun q1 =>
if q1 = 0 then
(some ((-1), u))
else
((fX6_isWithin v2 0 3 u).bind fun q2 =>
if q2 = 0 then
(some ((-1), u))
else
(gd (inb v1 12) <|
if (u.1 (12 * 0 + v1.toNatClampNeg) 5) = 0 then
((fX1_survey 0 0 u).bind fun q4 =>
gd (inb v1 12) <|
(fX1_search 0 0 (12 * 0 + v1.toNatClampNeg) 1 q4).bind fun q6 =>
if (q6.1 (154 + 0) 3) = 0 then
(some ((-9), q6))
else
(if v2 = 0 then
(some (q6.1 (154 + 0) 4, q6))
else
(if v2 = 1 then
(some (q6.1 (154 + 0) 5, q6))
else
(if v2 = 2 then
(if (q6.1 (154 + 0) 6) = 0 then
(some (0, q6))
else
(some (1, q6)))
else
(gd (inb v1 12) <|
(fX5_tall (12 * 0 + v1.toNatClampNeg) q6).bind fun q8 =>
some ((q6.1 (154 + 0) 7) + q8, q6))))))
else
(some ((-2), u))))
/-- TrayBox.places(I)I -/
def fX6_places (v1 : Int32) (u : S) : Option (Int32 × S) :=
(fX0_has 0 v1 u).bind fun q1 =>
if q1 = 0 then
(some ((-1), u))
else
(gd (inb v1 12) <|
if (u.1 (12 * 0 + v1.toNatClampNeg) 5) = 0 then
((fX1_survey 0 0 u).bind fun q3 =>
gd (inb v1 12) <|
(fX1_search 0 0 (12 * 0 + v1.toNatClampNeg) 0 q3).bind fun q5 =>
some (q5.1 (154 + 0) 3, q5))
else
(some ((-2), u)))
/-- TrayBox.takeOverPacked()I -/
def fX6_takeOverPacked  (u : S) : Option (Int32 × S) :=
(fX2_record 0 u).bind fun q1 =>
(fX0_copyTrays 0 9 q1).bind fun q2 =>
gd (inb 0 4) <|
some (q2.1 (163 + 1) (0 : Int32).toNatClampNeg, q2)
/-- TrayBox.pack()I -/
def fX6_pack  (u : S) : Option (Int32 × S) :=
(fX3_packUsually 0 u).bind fun q1 =>
(fX6_takeOverPacked q1).bind fun q2 =>
some (q2.1, q2.2)
/-- TrayBox.packBest()I -/
def fX6_packBest  (u : S) : Option (Int32 × S) :=
if (u.1 (132 + 0) 4) ≤ 5 then
((fX3_packByBest 0 u).bind fun q1 =>
(fX6_takeOverPacked q1).bind fun q2 =>
some (q2.1, q2.2))
else
(some ((-2), u))
/-- TrayBox.ifPacked(ZI)I -/
def fX6_ifPacked (v1 : Int32) (v2 : Int32) (u : S) : Option (Int32 × S) :=
(fX6_isWithin v2 0 3 u).bind fun q1 =>
if q1 = 0 then
(if 10 ≤ v2 then
(if v1 = 0 then
(if v1 = 0 then
((fX3_packUsually 0 u).bind fun q10 =>
if 4 ≤ v2 then
((fX0_has 0 (v2 - 10) q10).bind fun q11 =>
if q11 = 0 then
(some ((-9), q10))
else
(gd (inb (v2 - 10) 12) <|
some (q10.1 (163 + 0) (v2 - 10).toNatClampNeg, q10)))
else
(gd (inb v2 4) <|
some (q10.1 (163 + 1) v2.toNatClampNeg, q10)))
else
((fX3_packByBest 0 u).bind fun q12 =>
if 4 ≤ v2 then
((fX0_has 0 (v2 - 10) q12).bind fun q13 =>
if q13 = 0 then
(some ((-9), q12))
else
(gd (inb (v2 - 10) 12) <|
some (q12.1 (163 + 0) (v2 - 10).toNatClampNeg, q12)))
else
(gd (inb v2 4) <|
some (q12.1 (163 + 1) v2.toNatClampNeg, q12))))
else
(if (u.1 (132 + 0) 4) ≤ 5 then
(if v1 = 0 then
((fX3_packUsually 0 u).bind fun q14 =>
if 4 ≤ v2 then
((fX0_has 0 (v2 - 10) q14).bind fun q15 =>
if q15 = 0 then
(some ((-9), q14))
else
(gd (inb (v2 - 10) 12) <|
some (q14.1 (163 + 0) (v2 - 10).toNatClampNeg, q14)))
else
(gd (inb v2 4) <|
some (q14.1 (163 + 1) v2.toNatClampNeg, q14)))
else
((fX3_packByBest 0 u).bind fun q16 =>
if 4 ≤ v2 then
((fX0_has 0 (v2 - 10) q16).bind fun q17 =>
if q17 = 0 then
(some ((-9), q16))
else
(gd (inb (v2 - 10) 12) <|
some (q16.1 (163 + 0) (v2 - 10).toNatClampNeg, q16)))
else
(gd (inb v2 4) <|
some (q16.1 (163 + 1) v2.toNatClampNeg, q16))))
else
(some ((-2), u))))
else
(some ((-1), u)))
else
(if v1 = 0 then
(if v1 = 0 then
((fX3_packUsually 0 u).bind fun q2 =>
if 4 ≤ v2 then
((fX0_has 0 (v2 - 10) q2).bind fun q3 =>
if q3 = 0 then
(some ((-9), q2))
else
(gd (inb (v2 - 10) 12) <|
some (q2.1 (163 + 0) (v2 - 10).toNatClampNeg, q2)))
else
(gd (inb v2 4) <|
some (q2.1 (163 + 1) v2.toNatClampNeg, q2)))
else
((fX3_packByBest 0 u).bind fun q4 =>
if 4 ≤ v2 then
((fX0_has 0 (v2 - 10) q4).bind fun q5 =>
if q5 = 0 then
(some ((-9), q4))
else
(gd (inb (v2 - 10) 12) <|
some (q4.1 (163 + 0) (v2 - 10).toNatClampNeg, q4)))
else
(gd (inb v2 4) <|
some (q4.1 (163 + 1) v2.toNatClampNeg, q4))))
else
(if (u.1 (132 + 0) 4) ≤ 5 then
(if v1 = 0 then
((fX3_packUsually 0 u).bind fun q6 =>
if 4 ≤ v2 then
((fX0_has 0 (v2 - 10) q6).bind fun q7 =>
if q7 = 0 then
(some ((-9), q6))
else
(gd (inb (v2 - 10) 12) <|
some (q6.1 (163 + 0) (v2 - 10).toNatClampNeg, q6)))
else
(gd (inb v2 4) <|
some (q6.1 (163 + 1) v2.toNatClampNeg, q6)))
else
((fX3_packByBest 0 u).bind fun q8 =>
if 4 ≤ v2 then
((fX0_has 0 (v2 - 10) q8).bind fun q9 =>
if q9 = 0 then
(some ((-9), q8))
else
(gd (inb (v2 - 10) 12) <|
some (q8.1 (163 + 0) (v2 - 10).toNatClampNeg, q8)))
else
(gd (inb v2 4) <|
some (q8.1 (163 + 1) v2.toNatClampNeg, q8))))
else
(some ((-2), u))))
/-- TrayBox.play()I -/
def fX6_play  (u : S) : Option (Int32 × S) :=
(fX0_playedLifts 0 (-9) u).bind fun q1 =>
(fX2_record 0 u).bind fun q2 =>
(fX0_clear 0 q2).bind fun q3 =>
some (q1, q3)
/-- TrayBox.liftsTo(I)I -/
def fX6_liftsTo (v1 : Int32) (u : S) : Option (Int32) :=
(fX0_has 0 v1 u).bind fun q1 =>
if q1 = 0 then
(some (-1))
else
(gd (inb v1 12) <|
if (u.1 (12 * 0 + v1.toNatClampNeg) 5) = 0 then
(some (-2))
else
((fX0_playedLifts 0 v1 u).bind fun q3 =>
some q3))
/-- TrayBox.undo()I -/
def fX6_undo  (u : S) : Option (Int32 × S) :=
if (u.1 158 0) = 0 then
(some ((-2), u))
else
((fX2_restore 0 u).bind fun q1 =>
some (q1.1 158 0, q1))
/-- TrayBox.count(I)I -/
def fX6_count (v1 : Int32) (u : S) : Option (Int32) :=
if v1 = 0 then
(some (u.1 (132 + 0) 0))
else
(if v1 = 1 then
(some (u.1 (132 + 0) 1))
else
(if v1 = 2 then
(some (u.1 (132 + 0) 2))
else
(if v1 = 3 then
(some (u.1 (132 + 0) 3))
else
(if v1 = 4 then
(some (u.1 (132 + 0) 4))
else
(if v1 = 5 then
((fX0_inside 0 u).bind fun q1 =>
(fJ6_bitCount_0f7a4 q1 u).bind fun q2 =>
some q2)
else
(if v1 = 6 then
((fX0_freeTrays 0 u).bind fun q3 =>
some q3)
else
(if v1 = 7 then
((fX0_filledHeight 0 u).bind fun q4 =>
some q4)
else
(if v1 = 8 then
((fX0_air 0 u).bind fun q5 =>
some q5)
else
(if v1 = 9 then
((fX0_faults 0 u).bind fun q6 =>
some q6)
else
(if v1 = 10 then
((fX0_lifts 0 u).bind fun q7 =>
some q7)
else
(if v1 = 11 then
(some (u.1 160 0))
else
(if v1 = 12 then
(some (u.1 158 0))
else
(some (-1))))))))))))))
/-- TrayBox.digest()J -/
def gX6_digest_6  (u : S) (a : Int64 × Int32) : Option ((Int64 × Int32) ⊕ (Int64 × Int32)) :=
if 12 < a.2 then
(some (.inl (a.1, a.2)))
else
((fX6_count a.2 u).bind fun q101 =>
some (.inr ((31 * a.1) + q101.toInt64, a.2 + 1)))
def gX6_digest_47 (v3 : Int32) (u : S) (a : Int64 × Int32) : Option ((Int64 × Int32) ⊕ (Int64 × Int32)) :=
if 15 < a.2 then
(some (.inl (a.1, a.2)))
else
((fX6_tray v3 a.2 u).bind fun q203 =>
some (.inr ((31 * a.1) + q203.toInt64, a.2 + 1)))
def gX6_digest_33  (a : Int64 × Int32 × S) : Option ((Int64 × Int32 × S) ⊕ (Int64 × Int32 × S)) :=
if (a.2.2.1 (132 + 0) 4) ≤ a.2.1 then
(some (.inl (a.1, a.2.1, a.2.2)))
else
((lp (gX6_digest_47 a.2.1 a.2.2) FU (a.1, 0)).bind fun e103 =>
(fX6_place a.2.1 0 a.2.2).bind fun q105 =>
(fX6_place a.2.1 3 q105.2).bind fun q106 =>
some (.inr ((31 * ((31 * e103.1) + q105.1.toInt64)) + q106.1.toInt64, a.2.1 + 1, q106.2)))
def gX6_digest_125 (v3 : Int32) (u : S) (a : Int64 × Int32) : Option ((Int64 × Int32) ⊕ (Int64 × Int32)) :=
if (u.1 (132 + 0) 1) ≤ a.2 then
(some (.inl (a.1, a.2)))
else
((fX6_seen v3 a.2 0 u).bind fun q208 =>
(fX6_seen v3 a.2 1 u).bind fun q209 =>
some (.inr ((31 * ((31 * a.1) + q208.toInt64)) + q209.toInt64, a.2 + 1)))
def gX6_digest_111  (u : S) (a : Int64 × Int32) : Option ((Int64 × Int32) ⊕ (Int64 × Int32)) :=
if (u.1 (132 + 0) 0) ≤ a.2 then
(some (.inl (a.1, a.2)))
else
((lp (gX6_digest_125 a.2 u) FU (a.1, 0)).bind fun e108 =>
some (.inr (e108.1, a.2 + 1)))
def gX6_digest_194  (u : S) (a : Int64 × Int32) : Option ((Int64 × Int32) ⊕ (Int64 × Int32)) :=
if 4 ≤ a.2 then
(some (.inl (a.1, a.2)))
else
(gd (inb a.2 4) <|
some (.inr ((31 * a.1) + ((u.1 (163 + 1) a.2.toNatClampNeg).toInt64), a.2 + 1)))
def gX6_digest_224  (u : S) (a : Int64 × Int32) : Option ((Int64 × Int32) ⊕ (Int64 × Int32)) :=
if (u.1 (132 + 0) 4) ≤ a.2 then
(some (.inl (a.1, a.2)))
else
(gd (inb a.2 12) <|
if (u.1 (12 * 0 + a.2.toNatClampNeg) 5) = 0 then
(some (.inr (a.1, a.2 + 1)))
else
((fX6_liftsTo a.2 u).bind fun q115 =>
some (.inr ((31 * a.1) + q115.toInt64, a.2 + 1))))
def fX6_digest  (u : S) : Option (Int64 × S) :=
(lp (gX6_digest_6  u) FU (43160, 0)).bind fun e1 =>
(lp (gX6_digest_33 ) FU (e1.1, 0, u)).bind fun e3 =>
(lp (gX6_digest_111  e3.2.2) FU (e3.1, 0)).bind fun e8 =>
(fX3_packUsually 0 e3.2.2).bind fun q12 =>
(lp (gX6_digest_194  q12) FU (e8.1, 0)).bind fun e13 =>
(lp (gX6_digest_224  q12) FU (e13.1, 0)).bind fun e14 =>
some (e14.1, q12)
/-- TrayBoxModel.in(III)Z -/
def fX7_in (v0 : Int32) (v1 : Int32) (v2 : Int32) (u : S) : Option (Int32) :=
if v0 < v1 then
(some 0)
else
(if v2 < v0 then
(some 0)
else
(some 1))
/-- TrayBoxModel.copies(II)V -/
def gX7_copies_2 (v1 : Int32) (v2 : Int32) (a : Int32 × S) : Option ((Int32 × S) ⊕ (Int32 × S)) :=
if 125 ≤ a.1 then
(some (.inl (a.1, a.2)))
else
(gd (inb ((125 * v1) + a.1) 1375) <|
gd (inb ((125 * v2) + a.1) 1375) <|
nm (up a.2 1 ((125 * v2) + a.1).toNatClampNeg (a.2.1 1 ((125 * v1) + a.1).toNatClampNeg)) fun u101 =>
some (.inr (a.1 + 1, u101)))
def fX7_copies (v1 : Int32) (v2 : Int32) (u : S) : Option (S) :=
(lp (gX7_copies_2 v1 v2) FU (0, u)).bind fun e1 =>
some e1.2
/-- TrayBoxModel.records()V -/
def gX7_records_11  (a : Int32 × S) : Option ((Int32 × S) ⊕ (Int32 × S)) :=
if 8 ≤ a.1 then
(some (.inl (a.1, a.2)))
else
((fX7_copies (a.1 + 1) a.1 a.2).bind fun q103 =>
some (.inr (a.1 + 1, q103)))
def fX7_records  (u : S) : Option (S) :=
if (u.1 0 1) = 8 then
((lp (gX7_records_11 ) FU (1, u)).bind fun e3 =>
nm (up e3.2 0 1 ((e3.2.1 0 1) - 1)) fun u5 =>
nm (up u5 0 1 ((u5.1 0 1) + 1)) fun u6 =>
(fX7_copies 0 (u6.1 0 1) u6).bind fun q7 =>
some q7)
else
(nm (up u 0 1 ((u.1 0 1) + 1)) fun u1 =>
(fX7_copies 0 (u1.1 0 1) u1).bind fun q2 =>
some q2)
/-- TrayBoxModel.undo()I -/
def fX7_undo  (u : S) : Option (Int32 × S) :=
if (u.1 0 1) = 0 then
(some ((-2), u))
else
((fX7_copies (u.1 0 1) 0 u).bind fun q1 =>
nm (up q1 0 1 ((q1.1 0 1) - 1)) fun u2 =>
some (u2.1 0 1, u2))
/-- TrayBoxModel.of(II)I -/
def fX7_of (v1 : Int32) (v2 : Int32) (u : S) : Option (Int32) :=
gd (inb ((5 + (10 * v1)) + v2) 1375) <|
some (u.1 1 ((5 + (10 * v1)) + v2).toNatClampNeg)
/-- TrayBoxModel.sets(III)V -/
def fX7_sets (v1 : Int32) (v2 : Int32) (v3 : Int32) (u : S) : Option (S) :=
gd (inb ((5 + (10 * v1)) + v2) 1375) <|
nm (up u 1 ((5 + (10 * v1)) + v2).toNatClampNeg v3) fun u1 =>
some u1
/-- TrayBoxModel.trays()I -/
def fX7_trays  (u : S) : Option (Int32) :=
gd (inb 4 1375) <|
some (u.1 1 (4 : Int32).toNatClampNeg)
/-- TrayBoxModel.isTray(I)Z -/
def fX7_isTray (v1 : Int32) (u : S) : Option (Int32) :=
(fX7_trays u).bind fun q1 =>
(fX7_in v1 0 (q1 - 1) u).bind fun q2 =>
gd (isb q2) <| some q2
/-- TrayBoxModel.isIn(I)Z -/
def fX7_isIn (v1 : Int32) (u : S) : Option (Int32) :=
(fX7_of v1 5 u).bind fun q1 =>
if q1 = 1 then
(some 1)
else
(some 0)
/-- TrayBoxModel.high(I)I -/
def fX7_high (v1 : Int32) (u : S) : Option (Int32) :=
(fX7_of v1 2 u).bind fun q1 =>
(fX7_of v1 4 u).bind fun q2 =>
some (q1 + q2)
/-- TrayBoxModel.top(I)I -/
def fX7_top (v1 : Int32) (u : S) : Option (Int32) :=
(fX7_of v1 9 u).bind fun q1 =>
(fX7_high v1 u).bind fun q2 =>
some (q1 + q2)
/-- TrayBoxModel.along(IZZ)I -/
def fX7_along (v1 : Int32) (v2 : Int32) (v3 : Int32) (u : S) : Option (Int32) :=
if v2 = v3 then
((fX7_of v1 0 u).bind fun q1 =>
some q1)
else
((fX7_of v1 1 u).bind fun q2 =>
some q2)
/-- TrayBoxModel.spans(IZ)I -/
def fX7_spans (v1 : Int32) (v2 : Int32) (u : S) : Option (Int32) :=
(fX7_of v1 6 u).bind fun q1 =>
if q1 = 1 then
((fX7_along v1 v2 1 u).bind fun q3 =>
some q3)
else
((fX7_along v1 v2 0 u).bind fun q2 =>
some q2)
/-- TrayBoxModel.covers(III)Z -/
def fX7_covers (v1 : Int32) (v2 : Int32) (v3 : Int32) (u : S) : Option (Int32) :=
(fX7_of v1 7 u).bind fun q1 =>
(fX7_of v1 7 u).bind fun q2 =>
(fX7_spans v1 0 u).bind fun q3 =>
(fX7_in v2 q1 ((q2 + q3) - 1) u).bind fun q4 =>
if q4 = 0 then
(some 0)
else
((fX7_of v1 8 u).bind fun q5 =>
(fX7_of v1 8 u).bind fun q6 =>
(fX7_spans v1 1 u).bind fun q7 =>
(fX7_in v3 q5 ((q6 + q7) - 1) u).bind fun q8 =>
if q8 = 0 then
(some 0)
else
(some 1))
/-- TrayBoxModel.leaves(I)V -/
def gX7_leaves_2 (v1 : Int32) (a : Int32 × S) : Option ((Int32 × S) ⊕ (Int32 × S)) :=
if 10 ≤ a.1 then
(some (.inl (a.1, a.2)))
else
((fX7_sets v1 a.1 0 a.2).bind fun q101 =>
some (.inr (a.1 + 1, q101)))
def fX7_leaves (v1 : Int32) (u : S) : Option (S) :=
(lp (gX7_leaves_2 v1) FU (5, u)).bind fun e1 =>
some e1.2
/-- TrayBoxModel.inBox()I -/
def gX7_inBox_4  (u : S) (a : Int32 × Int32) : Option ((Int32 × Int32) ⊕ (Int32 × Int32)) :=
(fX7_trays u).bind fun q101 =>
if q101 ≤ a.2 then
(some (.inl (a.1, a.2)))
else
((fX7_of a.2 5 u).bind fun q102 =>
some (.inr (a.1 + q102, a.2 + 1)))
def fX7_inBox  (u : S) : Option (Int32) :=
(lp (gX7_inBox_4  u) FU (0, 0)).bind fun e1 =>
some e1.1
/-- TrayBoxModel.empties()V -/
def gX7_empties_2  (a : Int32 × S) : Option ((Int32 × S) ⊕ (Int32 × S)) :=
(fX7_trays a.2).bind fun q101 =>
if q101 ≤ a.1 then
(some (.inl (a.1, a.2)))
else
((fX7_leaves a.1 a.2).bind fun q102 =>
some (.inr (a.1 + 1, q102)))
def fX7_empties  (u : S) : Option (S) :=
(lp (gX7_empties_2 ) FU (0, u)).bind fun e1 =>
some e1.2
/-- TrayBoxModel.laysTops()V -/
def gX7_laysTops_2  (a : Int32 × S) : Option ((Int32 × S) ⊕ (Int32 × S)) :=
if 100 ≤ a.1 then
(some (.inl (a.1, a.2)))
else
(gd (inb a.1 100) <|
nm (up a.2 2 a.1.toNatClampNeg 0) fun u101 =>
some (.inr (a.1 + 1, u101)))
def gX7_laysTops_33 (v1 : Int32) (a : Int32 × S) : Option ((Int32 × S) ⊕ (Int32 × S)) :=
if 100 ≤ a.1 then
(some (.inl (a.1, a.2)))
else
((fX7_isIn v1 a.2).bind fun q204 =>
if q204 = 0 then
(some (.inl (a.1, a.2)))
else
((fX7_covers v1 (a.1 / 10) (a.1 % 10) a.2).bind fun q205 =>
if q205 = 0 then
(gd (inb a.1 100) <|
gd (inb a.1 100) <|
nm (up a.2 2 a.1.toNatClampNeg (a.2.1 2 a.1.toNatClampNeg)) fun u206 =>
some (.inr (a.1 + 1, u206)))
else
((fX7_top v1 a.2).bind fun q207 =>
gd (inb a.1 100) <|
if q207 ≤ (a.2.1 2 a.1.toNatClampNeg) then
(gd (inb a.1 100) <|
gd (inb a.1 100) <|
nm (up a.2 2 a.1.toNatClampNeg (a.2.1 2 a.1.toNatClampNeg)) fun u208 =>
some (.inr (a.1 + 1, u208)))
else
((fX7_top v1 a.2).bind fun q209 =>
gd (inb a.1 100) <|
nm (up a.2 2 a.1.toNatClampNeg q209) fun u210 =>
some (.inr (a.1 + 1, u210))))))
def gX7_laysTops_23  (a : Int32 × S) : Option ((Int32 × S) ⊕ (Int32 × S)) :=
(fX7_trays a.2).bind fun q103 =>
if q103 ≤ a.1 then
(some (.inl (a.1, a.2)))
else
((lp (gX7_laysTops_33 a.1) FU (0, a.2)).bind fun e104 =>
some (.inr (a.1 + 1, e104.2)))
def fX7_laysTops  (u : S) : Option (S) :=
(lp (gX7_laysTops_2 ) FU (0, u)).bind fun e1 =>
(lp (gX7_laysTops_23 ) FU (0, e1.2)).bind fun e3 =>
some e3.2
/-- TrayBoxModel.isInside(IIIZ)Z -/
def fX7_isInside (v1 : Int32) (v2 : Int32) (v3 : Int32) (v4 : Int32) (u : S) : Option (Int32) :=
if v2 < 0 then
(some 0)
else
(if v3 < 0 then
(some 0)
else
(gd (inb 0 1375) <|
(fX7_along v1 0 v4 u).bind fun q1 =>
if ((u.1 1 (0 : Int32).toNatClampNeg) - q1) < v2 then
(some 0)
else
(gd (inb 1 1375) <|
(fX7_along v1 1 v4 u).bind fun q2 =>
if ((u.1 1 (1 : Int32).toNatClampNeg) - q2) < v3 then
(some 0)
else
(some 1))))
/-- TrayBoxModel.looksAt(IIIZ)V -/
def gX7_looksAt_31 (v1 : Int32) (v3 : Int32) (v4 : Int32) (v5 : Int32) (a : Int32 × S) : Option ((Int32 × S) ⊕ (Int32 × S)) :=
(fX7_along v1 1 v4 a.2).bind fun q204 =>
if (v3 + q204) ≤ a.1 then
(some (.inl (a.1, a.2)))
else
(gd (inb ((10 * v5) + a.1) 100) <|
if (a.2.1 2 ((10 * v5) + a.1).toNatClampNeg) ≤ (a.2.1 0 3) then
(nm (up a.2 0 4 (a.2.1 0 4)) fun u205 =>
if (a.2.1 2 ((10 * v5) + a.1).toNatClampNeg) ≤ (u205.1 0 3) then
(nm (up u205 0 3 (u205.1 0 3)) fun u206 =>
if (a.2.1 2 ((10 * v5) + a.1).toNatClampNeg) = (u206.1 0 3) then
(nm (up u206 0 4 ((u206.1 0 4) + 1)) fun u208 =>
some (.inr (a.1 + 1, u208)))
else
(nm (up u206 0 4 ((u206.1 0 4) + 0)) fun u207 =>
some (.inr (a.1 + 1, u207))))
else
(nm (up u205 0 3 (a.2.1 2 ((10 * v5) + a.1).toNatClampNeg)) fun u209 =>
if (a.2.1 2 ((10 * v5) + a.1).toNatClampNeg) = (u209.1 0 3) then
(nm (up u209 0 4 ((u209.1 0 4) + 1)) fun u211 =>
some (.inr (a.1 + 1, u211)))
else
(nm (up u209 0 4 ((u209.1 0 4) + 0)) fun u210 =>
some (.inr (a.1 + 1, u210)))))
else
(nm (up a.2 0 4 0) fun u212 =>
if (a.2.1 2 ((10 * v5) + a.1).toNatClampNeg) ≤ (u212.1 0 3) then
(nm (up u212 0 3 (u212.1 0 3)) fun u213 =>
if (a.2.1 2 ((10 * v5) + a.1).toNatClampNeg) = (u213.1 0 3) then
(nm (up u213 0 4 ((u213.1 0 4) + 1)) fun u215 =>
some (.inr (a.1 + 1, u215)))
else
(nm (up u213 0 4 ((u213.1 0 4) + 0)) fun u214 =>
some (.inr (a.1 + 1, u214))))
else
(nm (up u212 0 3 (a.2.1 2 ((10 * v5) + a.1).toNatClampNeg)) fun u216 =>
if (a.2.1 2 ((10 * v5) + a.1).toNatClampNeg) = (u216.1 0 3) then
(nm (up u216 0 4 ((u216.1 0 4) + 1)) fun u218 =>
some (.inr (a.1 + 1, u218)))
else
(nm (up u216 0 4 ((u216.1 0 4) + 0)) fun u217 =>
some (.inr (a.1 + 1, u217))))))
def gX7_looksAt_13 (v1 : Int32) (v2 : Int32) (v3 : Int32) (v4 : Int32) (a : Int32 × S) : Option ((Int32 × S) ⊕ (Int32 × S)) :=
(fX7_along v1 0 v4 a.2).bind fun q103 =>
if (v2 + q103) ≤ a.1 then
(some (.inl (a.1, a.2)))
else
((lp (gX7_looksAt_31 v1 v3 v4 a.1) FU (v3, a.2)).bind fun e104 =>
some (.inr (a.1 + 1, e104.2)))
def fX7_looksAt (v1 : Int32) (v2 : Int32) (v3 : Int32) (v4 : Int32) (u : S) : Option (S) :=
nm (up u 0 3 0) fun u1 =>
nm (up u1 0 4 0) fun u2 =>
(lp (gX7_looksAt_13 v1 v2 v3 v4) FU (v2, u2)).bind fun e3 =>
some e3.2
/-- TrayBoxModel.can(IIIZ)Z -/
def fX7_can (v1 : Int32) (v2 : Int32) (v3 : Int32) (v4 : Int32) (u : S) : Option (Int32 × S) :=
(fX7_looksAt v1 v2 v3 v4 u).bind fun q1 =>
(fX7_high v1 q1).bind fun q2 =>
gd (inb 2 1375) <|
if (q1.1 1 (2 : Int32).toNatClampNeg) < ((q1.1 0 3) + q2) then
(some (0, q1))
else
(gd (inb 3 1375) <|
(fX7_of v1 0 q1).bind fun q3 =>
(fX7_of v1 1 q1).bind fun q4 =>
if (100 * (q1.1 0 4)) < (((q1.1 1 (3 : Int32).toNatClampNeg) * q3) * q4) then
(some (0, q1))
else
(some (1, q1)))
/-- TrayBoxModel.comes(IIII)V -/
def fX7_comes (v1 : Int32) (v2 : Int32) (v3 : Int32) (v4 : Int32) (u : S) : Option (S) :=
(fX7_laysTops u).bind fun q1 =>
if v4 = 1 then
((fX7_looksAt v1 v2 v3 1 q1).bind fun q8 =>
(fX7_sets v1 5 1 q8).bind fun q9 =>
(fX7_sets v1 6 v4 q9).bind fun q10 =>
(fX7_sets v1 7 v2 q10).bind fun q11 =>
(fX7_sets v1 8 v3 q11).bind fun q12 =>
(fX7_sets v1 9 (q12.1 0 3) q12).bind fun q13 =>
some q13)
else
((fX7_looksAt v1 v2 v3 0 q1).bind fun q2 =>
(fX7_sets v1 5 1 q2).bind fun q3 =>
(fX7_sets v1 6 v4 q3).bind fun q4 =>
(fX7_sets v1 7 v2 q4).bind fun q5 =>
(fX7_sets v1 8 v3 q5).bind fun q6 =>
(fX7_sets v1 9 (q6.1 0 3) q6).bind fun q7 =>
some q7)
/-- TrayBoxModel.letDown(IIIZ)I -/
def fX7_letDown (v1 : Int32) (v2 : Int32) (v3 : Int32) (v4 : Int32) (u : S) : Option (Int32 × S) :=
(fX7_isTray v1 u).bind fun q1 =>
if q1 = 0 then
(some ((-1), u))
else
((fX7_isInside v1 v2 v3 v4 u).bind fun q2 =>
if q2 = 0 then
(some ((-1), u))
else
((fX7_isIn v1 u).bind fun q3 =>
if q3 = 0 then
((fX7_laysTops u).bind fun q4 =>
(fX7_can v1 v2 v3 v4 q4).bind fun q5 =>
if q5.1 = 0 then
(some ((-3), q5.2))
else
((fX7_records q5.2).bind fun q6 =>
if v4 = 0 then
((fX7_comes v1 v2 v3 0 q6).bind fun q7 =>
(fX7_of v1 9 q7).bind fun q8 =>
some (q8, q7))
else
((fX7_comes v1 v2 v3 1 q6).bind fun q9 =>
(fX7_of v1 9 q9).bind fun q10 =>
some (q10, q9))))
else
(some ((-2), u))))
/-- TrayBoxModel.meet(II)Z -/
def fX7_meet (v1 : Int32) (v2 : Int32) (u : S) : Option (Int32) :=
(fX7_of v1 7 u).bind fun q1 =>
(fX7_of v2 7 u).bind fun q2 =>
(fX7_spans v2 0 u).bind fun q3 =>
if (q2 + q3) ≤ q1 then
(if (0 : Int32) = 0 then
(some 0)
else
((fX7_of v1 8 u).bind fun q4 =>
(fX7_of v2 8 u).bind fun q5 =>
(fX7_spans v2 1 u).bind fun q6 =>
if (q5 + q6) ≤ q4 then
(some 0)
else
((fX7_of v2 8 u).bind fun q7 =>
(fX7_of v1 8 u).bind fun q8 =>
(fX7_spans v1 1 u).bind fun q9 =>
if (q8 + q9) ≤ q7 then
(some 0)
else
(some 1))))
else
((fX7_of v2 7 u).bind fun q10 =>
(fX7_of v1 7 u).bind fun q11 =>
(fX7_spans v1 0 u).bind fun q12 =>
if (q11 + q12) ≤ q10 then
(if (0 : Int32) = 0 then
(some 0)
else
((fX7_of v1 8 u).bind fun q13 =>
(fX7_of v2 8 u).bind fun q14 =>
(fX7_spans v2 1 u).bind fun q15 =>
if (q14 + q15) ≤ q13 then
(some 0)
else
((fX7_of v2 8 u).bind fun q16 =>
(fX7_of v1 8 u).bind fun q17 =>
(fX7_spans v1 1 u).bind fun q18 =>
if (q17 + q18) ≤ q16 then
(some 0)
else
(some 1))))
else
(if (1 : Int32) = 0 then
(some 0)
else
((fX7_of v1 8 u).bind fun q19 =>
(fX7_of v2 8 u).bind fun q20 =>
(fX7_spans v2 1 u).bind fun q21 =>
if (q20 + q21) ≤ q19 then
(some 0)
else
((fX7_of v2 8 u).bind fun q22 =>
(fX7_of v1 8 u).bind fun q23 =>
(fX7_spans v1 1 u).bind fun q24 =>
if (q23 + q24) ≤ q22 then
(some 0)
else
(some 1)))))
/-- TrayBoxModel.liesOn(II)Z -/
def fX7_liesOn (v1 : Int32) (v2 : Int32) (u : S) : Option (Int32) :=
if v1 = v2 then
(some 0)
else
((fX7_isIn v1 u).bind fun q1 =>
if q1 = 0 then
(some 0)
else
((fX7_isIn v2 u).bind fun q2 =>
if q2 = 0 then
(some 0)
else
((fX7_meet v1 v2 u).bind fun q3 =>
if q3 = 0 then
(some 0)
else
((fX7_of v1 9 u).bind fun q4 =>
(fX7_top v2 u).bind fun q5 =>
if q4 < q5 then
(some 0)
else
(some 1)))))
/-- TrayBoxModel.above(I)I -/
def gX7_above_26 (v1 : Int32) (v4 : Int32) (u : S) (a : Int32 × Int32) : Option ((Int32 × Int32) ⊕ (Int32 × Int32)) :=
(fX7_trays u).bind fun q302 =>
if q302 ≤ a.2 then
(some (.inl (a.1, a.2)))
else
(if a.2 = v1 then
(if (1 : Int32) = 0 then
(some (.inr (a.1 ||| 0, a.2 + 1)))
else
((fX7_liesOn v4 a.2 u).bind fun q303 =>
if q303 = 0 then
(some (.inr (a.1 ||| 0, a.2 + 1)))
else
(some (.inr (a.1 ||| (1 <<< (v4 &&& 31)), a.2 + 1)))))
else
(if ((a.1 >>> (a.2 &&& 31)) &&& 1) = 1 then
(if (1 : Int32) = 0 then
(some (.inr (a.1 ||| 0, a.2 + 1)))
else
((fX7_liesOn v4 a.2 u).bind fun q305 =>
if q305 = 0 then
(some (.inr (a.1 ||| 0, a.2 + 1)))
else
(some (.inr (a.1 ||| (1 <<< (v4 &&& 31)), a.2 + 1)))))
else
(if (0 : Int32) = 0 then
(some (.inr (a.1 ||| 0, a.2 + 1)))
else
((fX7_liesOn v4 a.2 u).bind fun q304 =>
if q304 = 0 then
(some (.inr (a.1 ||| 0, a.2 + 1)))
else
(some (.inr (a.1 ||| (1 <<< (v4 &&& 31)), a.2 + 1)))))))
def gX7_above_14 (v1 : Int32) (u : S) (a : Int32 × Int32) : Option ((Int32 × Int32) ⊕ (Int32 × Int32)) :=
(fX7_trays u).bind fun q201 =>
if q201 ≤ a.2 then
(some (.inl (a.1, a.2)))
else
((lp (gX7_above_26 v1 a.2 u) FU (a.1, 0)).bind fun e202 =>
some (.inr (e202.1, a.2 + 1)))
def gX7_above_4 (v1 : Int32) (u : S) (a : Int32 × Int32) : Option ((Int32 × Int32) ⊕ (Int32 × Int32)) :=
if a.2 = a.1 then
(some (.inl (a.1, a.2)))
else
((lp (gX7_above_14 v1 u) FU (a.1, 0)).bind fun e101 =>
some (.inr (e101.1, a.1)))
def fX7_above (v1 : Int32) (u : S) : Option (Int32) :=
(lp (gX7_above_4 v1 u) FU (0, (-1))).bind fun e1 =>
some e1.1
/-- TrayBoxModel.lift(I)I -/
def gX7_lift_8  (u : S) (a : Int32 × Int32) : Option ((Int32 × Int32) ⊕ (Int32 × Int32)) :=
if a.2 = 0 then
(some (.inl (a.1, a.2)))
else
(some (.inr (a.1 + 1, a.2 &&& (a.2 - 1))))
def fX7_lift (v1 : Int32) (u : S) : Option (Int32) :=
(fX7_above v1 u).bind fun q1 =>
(lp (gX7_lift_8  u) FU (0, q1)).bind fun e2 =>
some e2.1
/-- TrayBoxModel.fault(I)I -/
def gX7_fault_11 (v1 : Int32) (v2 : Int32) (u : S) (a : Int32 × Int32) : Option ((Int32 × Int32) ⊕ (Int32 × Int32)) :=
(fX7_trays u).bind fun q102 =>
if q102 ≤ a.2 then
(some (.inl (a.1, a.2)))
else
(if ((v2 >>> (a.2 &&& 31)) &&& 1) = 1 then
((fX7_of a.2 3 u).bind fun q103 =>
(fX7_of v1 3 u).bind fun q104 =>
if q103 ≤ q104 then
(some (.inr (a.1 + 0, a.2 + 1)))
else
(some (.inr (a.1 + 1, a.2 + 1))))
else
(some (.inr (a.1 + 0, a.2 + 1))))
def fX7_fault (v1 : Int32) (u : S) : Option (Int32) :=
(fX7_above v1 u).bind fun q1 =>
(lp (gX7_fault_11 v1 q1 u) FU (0, 0)).bind fun e2 =>
some e2.1
/-- TrayBoxModel.rests(I)I -/
def gX7_rests_30 (v1 : Int32) (v3 : Int32) (u : S) (a : Int32 × Int32) : Option ((Int32 × Int32) ⊕ (Int32 × Int32)) :=
(fX7_trays u).bind fun q202 =>
if q202 ≤ a.2 then
(some (.inl (a.1, a.2)))
else
(if a.1 = 0 then
(if a.2 = v1 then
(some (.inr (0, a.2 + 1)))
else
((fX7_isIn a.2 u).bind fun q203 =>
if q203 = 0 then
(some (.inr (0, a.2 + 1)))
else
((fX7_covers a.2 (v3 / 10) (v3 % 10) u).bind fun q204 =>
if q204 = 0 then
(some (.inr (0, a.2 + 1)))
else
((fX7_top a.2 u).bind fun q205 =>
(fX7_of v1 9 u).bind fun q206 =>
if q205 = q206 then
(some (.inr (1, a.2 + 1)))
else
(some (.inr (0, a.2 + 1)))))))
else
(some (.inr (1, a.2 + 1))))
def gX7_rests_4 (v1 : Int32) (u : S) (a : Int32 × Int32) : Option ((Int32 × Int32) ⊕ (Int32 × Int32)) :=
if 100 ≤ a.2 then
(some (.inl (a.1, a.2)))
else
((fX7_of v1 9 u).bind fun q101 =>
if q101 = 0 then
((lp (gX7_rests_30 v1 a.2 u) FU (1, 0)).bind fun e109 =>
if e109.1 = 0 then
(some (.inr (a.1 + 0, a.2 + 1)))
else
((fX7_covers v1 (a.2 / 10) (a.2 % 10) u).bind fun q115 =>
if q115 = 0 then
(some (.inr (a.1 + 0, a.2 + 1)))
else
(some (.inr (a.1 + 1, a.2 + 1)))))
else
((lp (gX7_rests_30 v1 a.2 u) FU (0, 0)).bind fun e102 =>
if e102.1 = 0 then
(some (.inr (a.1 + 0, a.2 + 1)))
else
((fX7_covers v1 (a.2 / 10) (a.2 % 10) u).bind fun q108 =>
if q108 = 0 then
(some (.inr (a.1 + 0, a.2 + 1)))
else
(some (.inr (a.1 + 1, a.2 + 1))))))
def fX7_rests (v1 : Int32) (u : S) : Option (Int32) :=
(lp (gX7_rests_4 v1 u) FU (0, 0)).bind fun e1 =>
some e1.1
/-- TrayBoxModel.faults()I -/
def gX7_faults_4  (u : S) (a : Int32 × Int32) : Option ((Int32 × Int32) ⊕ (Int32 × Int32)) :=
(fX7_trays u).bind fun q101 =>
if q101 ≤ a.2 then
(some (.inl (a.1, a.2)))
else
((fX7_isIn a.2 u).bind fun q102 =>
if q102 = 0 then
(some (.inr (a.1 + 0, a.2 + 1)))
else
((fX7_fault a.2 u).bind fun q103 =>
some (.inr (a.1 + q103, a.2 + 1))))
def fX7_faults  (u : S) : Option (Int32) :=
(lp (gX7_faults_4  u) FU (0, 0)).bind fun e1 =>
some e1.1
/-- TrayBoxModel.lifts()I -/
def gX7_lifts_4  (u : S) (a : Int32 × Int32) : Option ((Int32 × Int32) ⊕ (Int32 × Int32)) :=
(fX7_trays u).bind fun q101 =>
if q101 ≤ a.2 then
(some (.inl (a.1, a.2)))
else
((fX7_isIn a.2 u).bind fun q102 =>
if q102 = 0 then
(some (.inr (a.1 + 0, a.2 + 1)))
else
((fX7_lift a.2 u).bind fun q103 =>
some (.inr (a.1 + q103, a.2 + 1))))
def fX7_lifts  (u : S) : Option (Int32) :=
(lp (gX7_lifts_4  u) FU (0, 0)).bind fun e1 =>
some e1.1
/-- TrayBoxModel.frees()I -/
def gX7_frees_4  (u : S) (a : Int32 × Int32) : Option ((Int32 × Int32) ⊕ (Int32 × Int32)) :=
(fX7_trays u).bind fun q101 =>
if q101 ≤ a.2 then
(some (.inl (a.1, a.2)))
else
((fX7_isIn a.2 u).bind fun q102 =>
if q102 = 0 then
(some (.inr (a.1 + 0, a.2 + 1)))
else
((fX7_above a.2 u).bind fun q103 =>
if q103 = 0 then
(some (.inr (a.1 + 1, a.2 + 1)))
else
(some (.inr (a.1 + 0, a.2 + 1)))))
def fX7_frees  (u : S) : Option (Int32) :=
(lp (gX7_frees_4  u) FU (0, 0)).bind fun e1 =>
some e1.1
/-- TrayBoxModel.boxHeight()I -/
def gX7_boxHeight_4  (u : S) (a : Int32 × Int32) : Option ((Int32 × Int32) ⊕ (Int32 × Int32)) :=
(fX7_trays u).bind fun q101 =>
if q101 ≤ a.2 then
(some (.inl (a.1, a.2)))
else
((fX7_isIn a.2 u).bind fun q102 =>
if q102 = 0 then
(some (.inr (a.1, a.2 + 1)))
else
((fX7_top a.2 u).bind fun q103 =>
if q103 ≤ a.1 then
(some (.inr (a.1, a.2 + 1)))
else
((fX7_top a.2 u).bind fun q104 =>
some (.inr (q104, a.2 + 1)))))
def fX7_boxHeight  (u : S) : Option (Int32) :=
(lp (gX7_boxHeight_4  u) FU (0, 0)).bind fun e1 =>
some e1.1
/-- TrayBoxModel.air()I -/
def gX7_air_21  (u : S) (a : Int32 × Int32) : Option ((Int32 × Int32) ⊕ (Int32 × Int32)) :=
(fX7_trays u).bind fun q102 =>
if q102 ≤ a.2 then
(some (.inl (a.1, a.2)))
else
((fX7_isIn a.2 u).bind fun q103 =>
if q103 = 0 then
(some (.inr (a.1 - 0, a.2 + 1)))
else
((fX7_of a.2 0 u).bind fun q104 =>
(fX7_of a.2 1 u).bind fun q105 =>
(fX7_high a.2 u).bind fun q106 =>
some (.inr (a.1 - ((q104 * q105) * q106), a.2 + 1))))
def fX7_air  (u : S) : Option (Int32) :=
gd (inb 0 1375) <|
gd (inb 1 1375) <|
(fX7_boxHeight u).bind fun q1 =>
(lp (gX7_air_21  u) FU (((u.1 1 (0 : Int32).toNatClampNeg) * (u.1 1 (1 : Int32).toNatClampNeg)) * q1, 0)).bind fun e2 =>
some e2.1
/-- TrayBoxModel.type(I)I -/
def fX7_type (v1 : Int32) (u : S) : Option (Int32 × S) :=
(fX7_in v1 32 126 u).bind fun q1 =>
if q1 = 0 then
(some ((-1), u))
else
(if (u.1 0 6) = 100 then
(some ((-3), u))
else
(gd (inb (u.1 0 6) 100) <|
nm (up u 3 (u.1 0 6).toNatClampNeg v1) fun u2 =>
nm (up u2 0 6 ((u2.1 0 6) + 1)) fun u3 =>
some (u3.1 0 6, u3)))
/-- TrayBoxModel.clearText()I -/
def fX7_clearText  (u : S) : Option (Int32 × S) :=
nm (up u 0 6 0) fun u1 =>
some (u.1 0 6, u1)
/-- TrayBoxModel.here()I -/
def fX7_here  (u : S) : Option (Int32) :=
if (u.1 0 6) ≤ (u.1 0 9) then
(some (-9))
else
(gd (inb (u.1 0 9) 100) <|
some (u.1 3 (u.1 0 9).toNatClampNeg))
/-- TrayBoxModel.isDigit()Z -/
def fX7_isDigit  (u : S) : Option (Int32) :=
(fX7_here u).bind fun q1 =>
(fX7_in q1 48 57 u).bind fun q2 =>
gd (isb q2) <| some q2
/-- TrayBoxModel.fails(II)Z -/
def fX7_fails (v1 : Int32) (v2 : Int32) (u : S) : Option (Int32 × S) :=
nm (up u 0 7 v1) fun u1 =>
nm (up u1 0 8 v2) fun u2 =>
some (0, u2)
/-- TrayBoxModel.takes(I)Z -/
def fX7_takes (v1 : Int32) (u : S) : Option (Int32 × S) :=
(fX7_here u).bind fun q1 =>
if q1 = v1 then
(nm (up u 0 9 ((u.1 0 9) + 1)) fun u2 =>
some (1, u2))
else
((fX7_fails 1 (u.1 0 9) u).bind fun q3 =>
gd (isb q3.1) <| some (q3.1, q3.2))
/-- TrayBoxModel.readsNumber(III)Z -/
def gX7_readsNumber_11 (v1 : Int32) (v4 : Int32) (a : S) : Option ((S) ⊕ (S)) :=
(fX7_isDigit a).bind fun q102 =>
if q102 = 0 then
(some (.inl a))
else
(if (v4 + v1) ≤ (a.1 0 9) then
(some (.inl a))
else
((fX7_here a).bind fun q103 =>
nm (up a 0 10 (((10 * (a.1 0 10)) + q103) - 48)) fun u104 =>
nm (up u104 0 9 ((u104.1 0 9) + 1)) fun u105 =>
some (.inr u105)))
def fX7_readsNumber (v1 : Int32) (v2 : Int32) (v3 : Int32) (u : S) : Option (Int32 × S) :=
nm (up u 0 10 0) fun u1 =>
(lp (gX7_readsNumber_11 v1 (u.1 0 9)) FU u1).bind fun e2 =>
if (e2.1 0 9) = (u.1 0 9) then
((fX7_fails 1 (e2.1 0 9) e2).bind fun q7 =>
gd (isb q7.1) <| some (q7.1, q7.2))
else
((fX7_isDigit e2).bind fun q8 =>
if q8 = 0 then
((fX7_in (e2.1 0 10) v2 v3 e2).bind fun q9 =>
if q9 = 0 then
((fX7_fails 2 (u.1 0 9) e2).bind fun q10 =>
if q10.1 = 0 then
(some (0, q10.2))
else
(some (1, q10.2)))
else
(some (1, e2)))
else
((fX7_fails 1 (e2.1 0 9) e2).bind fun q11 =>
gd (isb q11.1) <| some (q11.1, q11.2)))
/-- TrayBoxModel.readsInto(III)Z -/
def fX7_readsInto (v1 : Int32) (v2 : Int32) (v3 : Int32) (u : S) : Option (Int32 × S) :=
(fX7_readsNumber 2 1 v3 u).bind fun q1 =>
(fX7_sets v1 v2 (q1.2.1 0 10) q1.2).bind fun q2 =>
gd (isb q1.1) <| some (q1.1, q2)
/-- TrayBoxModel.readsTray()Z -/
def fX7_readsTray  (u : S) : Option (Int32 × S) :=
(fX7_trays u).bind fun q1 =>
if q1 = 12 then
((fX7_isDigit u).bind fun q29 =>
if q29 = 0 then
((fX7_fails 1 (u.1 0 9) u).bind fun q30 =>
gd (isb q30.1) <| some (q30.1, q30.2))
else
((fX7_fails 3 (u.1 0 9) u).bind fun q31 =>
gd (isb q31.1) <| some (q31.1, q31.2)))
else
((fX7_leaves q1 u).bind fun q2 =>
(fX7_sets q1 3 0 q2).bind fun q3 =>
(fX7_sets q1 4 0 q3).bind fun q4 =>
(fX7_readsInto q1 0 10 q4).bind fun q5 =>
if q5.1 = 0 then
(some (0, q5.2))
else
((fX7_takes 120 q5.2).bind fun q6 =>
if q6.1 = 0 then
(some (0, q6.2))
else
((fX7_readsInto q1 1 10 q6.2).bind fun q7 =>
if q7.1 = 0 then
(some (0, q7.2))
else
((fX7_takes 120 q7.2).bind fun q8 =>
if q8.1 = 0 then
(some (0, q8.2))
else
((fX7_readsInto q1 2 9 q8.2).bind fun q9 =>
if q9.1 = 0 then
(some (0, q9.2))
else
((fX7_here q9.2).bind fun q10 =>
if q10 = 108 then
((fX7_sets q1 4 1 q9.2).bind fun q19 =>
nm (up q19 0 9 ((q19.1 0 9) + 1)) fun u20 =>
(fX7_here u20).bind fun q21 =>
if q21 = 64 then
(nm (up u20 0 9 ((u20.1 0 9) + 1)) fun u24 =>
(fX7_readsNumber 1 0 9 u24).bind fun q25 =>
if q25.1 = 0 then
(some (0, q25.2))
else
((fX7_sets q1 3 (q25.2.1 0 10) q25.2).bind fun q26 =>
gd (inb 4 1375) <|
gd (inb 4 1375) <|
nm (up q26 1 (4 : Int32).toNatClampNeg ((q26.1 1 (4 : Int32).toNatClampNeg) + 1)) fun u27 =>
(fX7_takes 59 u27).bind fun q28 =>
gd (isb q28.1) <| some (q28.1, q28.2)))
else
(gd (inb 4 1375) <|
gd (inb 4 1375) <|
nm (up u20 1 (4 : Int32).toNatClampNeg ((u20.1 1 (4 : Int32).toNatClampNeg) + 1)) fun u22 =>
(fX7_takes 59 u22).bind fun q23 =>
gd (isb q23.1) <| some (q23.1, q23.2)))
else
((fX7_here q9.2).bind fun q11 =>
if q11 = 64 then
(nm (up q9.2 0 9 ((q9.2.1 0 9) + 1)) fun u14 =>
(fX7_readsNumber 1 0 9 u14).bind fun q15 =>
if q15.1 = 0 then
(some (0, q15.2))
else
((fX7_sets q1 3 (q15.2.1 0 10) q15.2).bind fun q16 =>
gd (inb 4 1375) <|
gd (inb 4 1375) <|
nm (up q16 1 (4 : Int32).toNatClampNeg ((q16.1 1 (4 : Int32).toNatClampNeg) + 1)) fun u17 =>
(fX7_takes 59 u17).bind fun q18 =>
gd (isb q18.1) <| some (q18.1, q18.2)))
else
(gd (inb 4 1375) <|
gd (inb 4 1375) <|
nm (up q9.2 1 (4 : Int32).toNatClampNeg ((q9.2.1 1 (4 : Int32).toNatClampNeg) + 1)) fun u12 =>
(fX7_takes 59 u12).bind fun q13 =>
gd (isb q13.1) <| some (q13.1, q13.2)))))))))
/-- TrayBoxModel.recordsKept(I)V -/
def gX7_recordsKept_2 (v1 : Int32) (a : Int32 × S) : Option ((Int32 × S) ⊕ (Int32 × S)) :=
if 125 ≤ a.1 then
(some (.inl (a.1, a.2)))
else
(gd (inb a.1 1375) <|
gd (inb ((125 * v1) + a.1) 1375) <|
gd (inb a.1 1375) <|
nm (up a.2 1 a.1.toNatClampNeg (a.2.1 1 ((125 * v1) + a.1).toNatClampNeg)) fun u101 =>
gd (inb ((125 * v1) + a.1) 1375) <|
nm (up u101 1 ((125 * v1) + a.1).toNatClampNeg (a.2.1 1 a.1.toNatClampNeg)) fun u102 =>
some (.inr (a.1 + 1, u102)))
def fX7_recordsKept (v1 : Int32) (u : S) : Option (S) :=
(lp (gX7_recordsKept_2 v1) FU (0, u)).bind fun e1 =>
(fX7_records e1.2).bind fun q4 =>
(fX7_copies v1 0 q4).bind fun q5 =>
some q5
/-- TrayBoxModel.load()I -/
def gX7_load_26  (a : Int32 × S) : Option ((Int32 × S) ⊕ (Int32 × S)) :=
if a.1 = 0 then
(some (.inl (a.1, a.2)))
else
(if (a.2.1 0 6) ≤ (a.2.1 0 9) then
(some (.inl (a.1, a.2)))
else
((fX7_readsTray a.2).bind fun q105 =>
some (.inr (q105.1, q105.2))))
def fX7_load  (u : S) : Option (Int32 × S) :=
(fX7_copies 0 9 u).bind fun q1 =>
nm (up q1 0 7 0) fun u2 =>
nm (up u2 0 9 0) fun u3 =>
gd (inb 4 1375) <|
nm (up u3 1 (4 : Int32).toNatClampNeg 0) fun u4 =>
(lp (gX7_load_26 ) FU (1, u4)).bind fun e5 =>
if e5.1 = 0 then
((fX7_copies 9 0 e5.2).bind fun q9 =>
some ((-10) - (q9.1 0 8), q9))
else
((fX7_recordsKept 9 e5.2).bind fun q7 =>
(fX7_trays q7).bind fun q8 =>
some (q8, q7))
/-- TrayBoxModel.faultKind()I -/
def fX7_faultKind  (u : S) : Option (Int32) :=
some (u.1 0 7)
/-- TrayBoxModel.setBox(III)I -/
def fX7_setBox (v1 : Int32) (v2 : Int32) (v3 : Int32) (u : S) : Option (Int32 × S) :=
(fX7_in v1 2 10 u).bind fun q1 =>
if q1 = 0 then
(some ((-1), u))
else
((fX7_in v2 2 10 u).bind fun q2 =>
if q2 = 0 then
(some ((-1), u))
else
((fX7_in v3 1 30 u).bind fun q3 =>
if q3 = 0 then
(some ((-1), u))
else
((fX7_records u).bind fun q4 =>
(fX7_inBox q4).bind fun q5 =>
(fX7_empties q4).bind fun q6 =>
gd (inb 0 1375) <|
nm (up q6 1 (0 : Int32).toNatClampNeg v1) fun u7 =>
gd (inb 1 1375) <|
nm (up u7 1 (1 : Int32).toNatClampNeg v2) fun u8 =>
gd (inb 2 1375) <|
nm (up u8 1 (2 : Int32).toNatClampNeg v3) fun u9 =>
some (q5, u9))))
/-- TrayBoxModel.setShare(I)I -/
def fX7_setShare (v1 : Int32) (u : S) : Option (Int32 × S) :=
(fX7_in v1 0 100 u).bind fun q1 =>
if q1 = 0 then
(some ((-1), u))
else
((fX7_records u).bind fun q2 =>
gd (inb 3 1375) <|
gd (inb 3 1375) <|
nm (up q2 1 (3 : Int32).toNatClampNeg v1) fun u3 =>
some (q2.1 1 (3 : Int32).toNatClampNeg, u3))
/-- TrayBoxModel.add(IIII)I -/
def fX7_add (v1 : Int32) (v2 : Int32) (v3 : Int32) (v4 : Int32) (u : S) : Option (Int32 × S) :=
(fX7_in v1 1 10 u).bind fun q1 =>
if q1 = 0 then
(some ((-1), u))
else
((fX7_in v2 1 10 u).bind fun q2 =>
if q2 = 0 then
(some ((-1), u))
else
((fX7_in v3 1 9 u).bind fun q3 =>
if q3 = 0 then
(some ((-1), u))
else
((fX7_in v4 0 9 u).bind fun q4 =>
if q4 = 0 then
(some ((-1), u))
else
((fX7_trays u).bind fun q5 =>
if q5 = 12 then
(some ((-3), u))
else
((fX7_records u).bind fun q6 =>
(fX7_trays q6).bind fun q7 =>
(fX7_leaves q7 q6).bind fun q8 =>
(fX7_sets q7 0 v1 q8).bind fun q9 =>
(fX7_sets q7 1 v2 q9).bind fun q10 =>
(fX7_sets q7 2 v3 q10).bind fun q11 =>
(fX7_sets q7 3 v4 q11).bind fun q12 =>
(fX7_sets q7 4 0 q12).bind fun q13 =>
gd (inb 4 1375) <|
gd (inb 4 1375) <|
nm (up q13 1 (4 : Int32).toNatClampNeg ((q13.1 1 (4 : Int32).toNatClampNeg) + 1)) fun u14 =>
some (q7, u14))))))
/-- TrayBoxModel.drop(I)I -/
def gX7_drop_42  (a : Int32 × S) : Option ((Int32 × S) ⊕ (Int32 × S)) :=
(fX7_trays a.2).bind fun q105 =>
if (5 + (10 * q105)) ≤ a.1 then
(some (.inl (a.1, a.2)))
else
(gd (inb (a.1 + 10) 1375) <|
gd (inb a.1 1375) <|
nm (up a.2 1 a.1.toNatClampNeg (a.2.1 1 (a.1 + 10).toNatClampNeg)) fun u106 =>
some (.inr (a.1 + 1, u106)))
def fX7_drop (v1 : Int32) (u : S) : Option (Int32 × S) :=
(fX7_isTray v1 u).bind fun q1 =>
if q1 = 0 then
(some ((-1), u))
else
((fX7_isIn v1 u).bind fun q2 =>
if q2 = 0 then
((fX7_records u).bind fun q3 =>
gd (inb 4 1375) <|
gd (inb 4 1375) <|
nm (up q3 1 (4 : Int32).toNatClampNeg ((q3.1 1 (4 : Int32).toNatClampNeg) - 1)) fun u4 =>
(lp (gX7_drop_42 ) FU (5 + (10 * v1), u4)).bind fun e5 =>
(fX7_trays e5.2).bind fun q8 =>
some (q8, e5.2))
else
(some ((-2), u)))
/-- TrayBoxModel.setTray(III)I -/
def fX7_setTray (v1 : Int32) (v2 : Int32) (v3 : Int32) (u : S) : Option (Int32 × S) :=
(fX7_isTray v1 u).bind fun q1 =>
if q1 = 0 then
(some ((-1), u))
else
((fX7_in v2 0 1 u).bind fun q2 =>
if q2 = 0 then
(some ((-1), u))
else
(if v2 = 0 then
((fX7_in v3 0 9 u).bind fun q11 =>
if q11 = 0 then
(some ((-1), u))
else
(if v2 = 1 then
((fX7_isIn v1 u).bind fun q15 =>
if q15 = 0 then
((fX7_records u).bind fun q16 =>
(fX7_of v1 (3 + v2) q16).bind fun q17 =>
(fX7_sets v1 (3 + v2) v3 q16).bind fun q18 =>
some (q17, q18))
else
(some ((-2), u)))
else
((fX7_records u).bind fun q12 =>
(fX7_of v1 (3 + v2) q12).bind fun q13 =>
(fX7_sets v1 (3 + v2) v3 q12).bind fun q14 =>
some (q13, q14))))
else
((fX7_in v3 0 1 u).bind fun q3 =>
if q3 = 0 then
(some ((-1), u))
else
(if v2 = 1 then
((fX7_isIn v1 u).bind fun q7 =>
if q7 = 0 then
((fX7_records u).bind fun q8 =>
(fX7_of v1 (3 + v2) q8).bind fun q9 =>
(fX7_sets v1 (3 + v2) v3 q8).bind fun q10 =>
some (q9, q10))
else
(some ((-2), u)))
else
((fX7_records u).bind fun q4 =>
(fX7_of v1 (3 + v2) q4).bind fun q5 =>
(fX7_sets v1 (3 + v2) v3 q4).bind fun q6 =>
some (q5, q6))))))
/-- TrayBoxModel.takeOut(I)I -/
def fX7_takeOut (v1 : Int32) (u : S) : Option (Int32 × S) :=
(fX7_isTray v1 u).bind fun q1 =>
if q1 = 0 then
(some ((-1), u))
else
((fX7_isIn v1 u).bind fun q2 =>
if q2 = 0 then
(some ((-2), u))
else
((fX7_above v1 u).bind fun q3 =>
if q3 = 0 then
((fX7_records u).bind fun q4 =>
(fX7_of v1 9 q4).bind fun q5 =>
(fX7_leaves v1 q4).bind fun q6 =>
some (q5, q6))
else
(some ((-2), u))))
/-- TrayBoxModel.empty()I -/
def fX7_empty  (u : S) : Option (Int32 × S) :=
(fX7_records u).bind fun q1 =>
(fX7_inBox q1).bind fun q2 =>
(fX7_empties q1).bind fun q3 =>
some (q2, q3)
/-- TrayBoxModel.tray(II)I -/
def fX7_tray (v1 : Int32) (v2 : Int32) (u : S) : Option (Int32) :=
(fX7_isTray v1 u).bind fun q1 =>
if q1 = 0 then
(some (-1))
else
((fX7_in v2 0 15 u).bind fun q2 =>
if q2 = 0 then
(some (-1))
else
(if 7 ≤ v2 then
((fX7_isIn v1 u).bind fun q3 =>
if q3 = 0 then
(some (-9))
else
(if v2 = 7 then
((fX7_of v1 v2 u).bind fun q4 =>
some q4)
else
(if v2 = 8 then
((fX7_of v1 v2 u).bind fun q5 =>
some q5)
else
(if v2 = 9 then
((fX7_of v1 v2 u).bind fun q6 =>
some q6)
else
(if v2 = 10 then
((fX7_top v1 u).bind fun q7 =>
some q7)
else
(if v2 = 11 then
((fX7_lift v1 u).bind fun q8 =>
some q8)
else
(if v2 = 12 then
((fX7_fault v1 u).bind fun q9 =>
some q9)
else
(if v2 = 13 then
((fX7_above v1 u).bind fun q10 =>
if q10 = 0 then
(some 1)
else
(some 0))
else
(if v2 = 14 then
((fX7_above v1 u).bind fun q11 =>
some q11)
else
((fX7_rests v1 u).bind fun q12 =>
some q12))))))))))
else
((fX7_of v1 v2 u).bind fun q13 =>
some q13)))
/-- TrayBoxModel.seen(IIZ)I -/
def gX7_seen_41 (v1 : Int32) (v2 : Int32) (u : S) (a : Int32 × Int32) : Option ((Int32 × Int32) ⊕ (Int32 × Int32)) :=
(fX7_trays u).bind fun q103 =>
if q103 ≤ a.2 then
(some (.inl (a.1, a.2)))
else
((fX7_isIn a.2 u).bind fun q104 =>
if q104 = 0 then
(if (0 : Int32) = 0 then
(some (.inr (a.1, a.2 + 1)))
else
(if a.1 = (-9) then
(some (.inr (a.2, a.2 + 1)))
else
((fX7_top a.2 u).bind fun q105 =>
(fX7_top a.1 u).bind fun q106 =>
if q105 ≤ q106 then
(some (.inr (a.1, a.2 + 1)))
else
(some (.inr (a.2, a.2 + 1))))))
else
((fX7_covers a.2 v1 v2 u).bind fun q107 =>
if q107 = 0 then
(if (0 : Int32) = 0 then
(some (.inr (a.1, a.2 + 1)))
else
(if a.1 = (-9) then
(some (.inr (a.2, a.2 + 1)))
else
((fX7_top a.2 u).bind fun q108 =>
(fX7_top a.1 u).bind fun q109 =>
if q108 ≤ q109 then
(some (.inr (a.1, a.2 + 1)))
else
(some (.inr (a.2, a.2 + 1))))))
else
(if (1 : Int32) = 0 then
(some (.inr (a.1, a.2 + 1)))
else
(if a.1 = (-9) then
(some (.inr (a.2, a.2 + 1)))
else
((fX7_top a.2 u).bind fun q110 =>
(fX7_top a.1 u).bind fun q111 =>
if q110 ≤ q111 then
(some (.inr (a.1, a.2 + 1)))
else
(some (.inr (a.2, a.2 + 1))))))))
def fX7_seen (v1 : Int32) (v2 : Int32) (v3 : Int32) (u : S) : Option (Int32) :=
gd (inb 0 1375) <|
(fX7_in v1 0 ((u.1 1 (0 : Int32).toNatClampNeg) - 1) u).bind fun q1 =>
if q1 = 0 then
(some (-1))
else
(gd (inb 1 1375) <|
(fX7_in v2 0 ((u.1 1 (1 : Int32).toNatClampNeg) - 1) u).bind fun q2 =>
if q2 = 0 then
(some (-1))
else
((lp (gX7_seen_41 v1 v2 u) FU ((-9), 0)).bind fun e3 =>
if v3 = 0 then
(some e3.1)
else
(if e3.1 = (-9) then
(some 0)
else
((fX7_top e3.1 u).bind fun q13 =>
some q13))))
/-- TrayBoxModel.finds(I)V -/
def gX7_finds_65 (v1 : Int32) (v2 : Int32) (v3 : Int32) (v4 : Int32) (a : Int32 × S) : Option ((Int32 × S) ⊕ (Int32 × S)) :=
if v2 ≤ a.1 then
(some (.inl (a.1, a.2)))
else
(if a.1 = 1 then
((fX7_isInside v1 v4 v3 1 a.2).bind fun q329 =>
if q329 = 0 then
(some (.inr (a.1 + 1, a.2)))
else
(if a.1 = 1 then
((fX7_can v1 v4 v3 1 a.2).bind fun q341 =>
if q341.1 = 0 then
(some (.inr (a.1 + 1, q341.2)))
else
((fX7_high v1 q341.2).bind fun q342 =>
nm (up q341.2 0 15 ((q341.2.1 0 15) + 1)) fun u343 =>
if (u343.1 0 14) = (-9) then
(nm (up u343 0 14 ((q341.2.1 0 3) + q342)) fun u344 =>
nm (up u344 0 11 v4) fun u345 =>
nm (up u345 0 12 v3) fun u346 =>
nm (up u346 0 13 a.1) fun u347 =>
some (.inr (a.1 + 1, u347)))
else
(if (u343.1 0 14) ≤ ((q341.2.1 0 3) + q342) then
(some (.inr (a.1 + 1, u343)))
else
(nm (up u343 0 14 ((q341.2.1 0 3) + q342)) fun u348 =>
nm (up u348 0 11 v4) fun u349 =>
nm (up u349 0 12 v3) fun u350 =>
nm (up u350 0 13 a.1) fun u351 =>
some (.inr (a.1 + 1, u351))))))
else
((fX7_can v1 v4 v3 0 a.2).bind fun q330 =>
if q330.1 = 0 then
(some (.inr (a.1 + 1, q330.2)))
else
((fX7_high v1 q330.2).bind fun q331 =>
nm (up q330.2 0 15 ((q330.2.1 0 15) + 1)) fun u332 =>
if (u332.1 0 14) = (-9) then
(nm (up u332 0 14 ((q330.2.1 0 3) + q331)) fun u333 =>
nm (up u333 0 11 v4) fun u334 =>
nm (up u334 0 12 v3) fun u335 =>
nm (up u335 0 13 a.1) fun u336 =>
some (.inr (a.1 + 1, u336)))
else
(if (u332.1 0 14) ≤ ((q330.2.1 0 3) + q331) then
(some (.inr (a.1 + 1, u332)))
else
(nm (up u332 0 14 ((q330.2.1 0 3) + q331)) fun u337 =>
nm (up u337 0 11 v4) fun u338 =>
nm (up u338 0 12 v3) fun u339 =>
nm (up u339 0 13 a.1) fun u340 =>
some (.inr (a.1 + 1, u340))))))))
else
((fX7_isInside v1 v4 v3 0 a.2).bind fun q306 =>
if q306 = 0 then
(some (.inr (a.1 + 1, a.2)))
else
(if a.1 = 1 then
((fX7_can v1 v4 v3 1 a.2).bind fun q318 =>
if q318.1 = 0 then
(some (.inr (a.1 + 1, q318.2)))
else
((fX7_high v1 q318.2).bind fun q319 =>
nm (up q318.2 0 15 ((q318.2.1 0 15) + 1)) fun u320 =>
if (u320.1 0 14) = (-9) then
(nm (up u320 0 14 ((q318.2.1 0 3) + q319)) fun u321 =>
nm (up u321 0 11 v4) fun u322 =>
nm (up u322 0 12 v3) fun u323 =>
nm (up u323 0 13 a.1) fun u324 =>
some (.inr (a.1 + 1, u324)))
else
(if (u320.1 0 14) ≤ ((q318.2.1 0 3) + q319) then
(some (.inr (a.1 + 1, u320)))
else
(nm (up u320 0 14 ((q318.2.1 0 3) + q319)) fun u325 =>
nm (up u325 0 11 v4) fun u326 =>
nm (up u326 0 12 v3) fun u327 =>
nm (up u327 0 13 a.1) fun u328 =>
some (.inr (a.1 + 1, u328))))))
else
((fX7_can v1 v4 v3 0 a.2).bind fun q307 =>
if q307.1 = 0 then
(some (.inr (a.1 + 1, q307.2)))
else
((fX7_high v1 q307.2).bind fun q308 =>
nm (up q307.2 0 15 ((q307.2.1 0 15) + 1)) fun u309 =>
if (u309.1 0 14) = (-9) then
(nm (up u309 0 14 ((q307.2.1 0 3) + q308)) fun u310 =>
nm (up u310 0 11 v4) fun u311 =>
nm (up u311 0 12 v3) fun u312 =>
nm (up u312 0 13 a.1) fun u313 =>
some (.inr (a.1 + 1, u313)))
else
(if (u309.1 0 14) ≤ ((q307.2.1 0 3) + q308) then
(some (.inr (a.1 + 1, u309)))
else
(nm (up u309 0 14 ((q307.2.1 0 3) + q308)) fun u314 =>
nm (up u314 0 11 v4) fun u315 =>
nm (up u315 0 12 v3) fun u316 =>
nm (up u316 0 13 a.1) fun u317 =>
some (.inr (a.1 + 1, u317)))))))))
def gX7_finds_51 (v1 : Int32) (v2 : Int32) (v3 : Int32) (a : Int32 × S) : Option ((Int32 × S) ⊕ (Int32 × S)) :=
gd (inb 0 1375) <|
if (a.2.1 1 (0 : Int32).toNatClampNeg) ≤ a.1 then
(some (.inl (a.1, a.2)))
else
((lp (gX7_finds_65 v1 v2 v3 a.1) FU (0, a.2)).bind fun e206 =>
some (.inr (a.1 + 1, e206.2)))
def gX7_finds_38 (v1 : Int32) (v2 : Int32) (a : Int32 × S) : Option ((Int32 × S) ⊕ (Int32 × S)) :=
gd (inb 1 1375) <|
if (a.2.1 1 (1 : Int32).toNatClampNeg) ≤ a.1 then
(some (.inl (a.1, a.2)))
else
((lp (gX7_finds_51 v1 v2 a.1) FU (0, a.2)).bind fun e106 =>
some (.inr (a.1 + 1, e106.2)))
def fX7_finds (v1 : Int32) (u : S) : Option (S) :=
(fX7_laysTops u).bind fun q1 =>
nm (up q1 0 15 0) fun u2 =>
nm (up u2 0 14 (-9)) fun u3 =>
(fX7_of v1 0 u3).bind fun q4 =>
(fX7_of v1 1 u3).bind fun q5 =>
if q4 = q5 then
((lp (gX7_finds_38 v1 1) FU (0, u3)).bind fun e55 =>
some e55.2)
else
((lp (gX7_finds_38 v1 2) FU (0, u3)).bind fun e6 =>
some e6.2)
/-- TrayBoxModel.place(II)I -/
def fX7_place (v1 : Int32) (v2 : Int32) (u : S) : Option (Int32 × S) :=
(fX7_isTray v1 u).bind fun q1 =>
if q1 = 0 then
(some ((-1), u))
else
((fX7_in v2 0 3 u).bind fun q2 =>
if q2 = 0 then
(some ((-1), u))
else
((fX7_isIn v1 u).bind fun q3 =>
if q3 = 0 then
((fX7_finds v1 u).bind fun q4 =>
if (q4.1 0 14) = (-9) then
(some ((-9), q4))
else
(if v2 = 0 then
(some (q4.1 0 11, q4))
else
(if v2 = 1 then
(some (q4.1 0 12, q4))
else
(if v2 = 2 then
(some (q4.1 0 13, q4))
else
(some (q4.1 0 14, q4))))))
else
(some ((-2), u))))
/-- TrayBoxModel.places(I)I -/
def fX7_places (v1 : Int32) (u : S) : Option (Int32 × S) :=
(fX7_isTray v1 u).bind fun q1 =>
if q1 = 0 then
(some ((-1), u))
else
((fX7_isIn v1 u).bind fun q2 =>
if q2 = 0 then
((fX7_finds v1 u).bind fun q3 =>
some (q3.1 0 15, q3))
else
(some ((-2), u)))
/-- TrayBoxModel.isAhead(II)Z -/
def fX7_isAhead (v1 : Int32) (v2 : Int32) (u : S) : Option (Int32) :=
(fX7_of v1 3 u).bind fun q1 =>
(fX7_of v2 3 u).bind fun q2 =>
if q1 = q2 then
((fX7_of v1 0 u).bind fun q3 =>
(fX7_of v1 1 u).bind fun q4 =>
(fX7_of v2 0 u).bind fun q5 =>
(fX7_of v2 1 u).bind fun q6 =>
if (q3 * q4) = (q5 * q6) then
(if v2 ≤ v1 then
(some 0)
else
(some 1))
else
(if (q3 * q4) ≤ (q5 * q6) then
(some 0)
else
(some 1)))
else
((fX7_of v1 3 u).bind fun q7 =>
(fX7_of v2 3 u).bind fun q8 =>
if q7 ≤ q8 then
(some 0)
else
(some 1))
/-- TrayBoxModel.ordersUsually()V -/
def gX7_ordersUsually_12 (v1 : Int32) (a : Int32 × S) : Option ((Int32 × S) ⊕ (Int32 × S)) :=
if a.1 ≤ 0 then
(some (.inl (a.1, a.2)))
else
(gd (inb (a.1 - 1) 12) <|
(fX7_isAhead v1 (a.2.1 4 (a.1 - 1).toNatClampNeg) a.2).bind fun q202 =>
if q202 = 0 then
(some (.inl (a.1, a.2)))
else
(gd (inb (a.1 - 1) 12) <|
gd (inb a.1 12) <|
nm (up a.2 4 a.1.toNatClampNeg (a.2.1 4 (a.1 - 1).toNatClampNeg)) fun u203 =>
some (.inr (a.1 + (-1), u203))))
def gX7_ordersUsually_2  (a : Int32 × S) : Option ((Int32 × S) ⊕ (Int32 × S)) :=
(fX7_trays a.2).bind fun q101 =>
if q101 ≤ a.1 then
(some (.inl (a.1, a.2)))
else
((lp (gX7_ordersUsually_12 a.1) FU (a.1, a.2)).bind fun e102 =>
gd (inb e102.1 12) <|
nm (up e102.2 4 e102.1.toNatClampNeg a.1) fun u105 =>
some (.inr (a.1 + 1, u105)))
def fX7_ordersUsually  (u : S) : Option (S) :=
(lp (gX7_ordersUsually_2 ) FU (0, u)).bind fun e1 =>
some e1.2
/-- TrayBoxModel.packs()V -/
def gX7_packs_6  (a : Int32 × S) : Option ((Int32 × S) ⊕ (Int32 × S)) :=
(fX7_trays a.2).bind fun q102 =>
if q102 ≤ a.1 then
(some (.inl (a.1, a.2)))
else
(gd (inb a.1 12) <|
(fX7_finds (a.2.1 4 a.1.toNatClampNeg) a.2).bind fun q103 =>
if (q103.1 0 14) = (-9) then
(some (.inr (a.1 + 1, q103)))
else
(gd (inb a.1 12) <|
(fX7_comes (q103.1 4 a.1.toNatClampNeg) (q103.1 0 11) (q103.1 0 12) (q103.1 0 13) q103).bind fun q104 =>
some (.inr (a.1 + 1, q104))))
def fX7_packs  (u : S) : Option (S) :=
(fX7_empties u).bind fun q1 =>
(lp (gX7_packs_6 ) FU (0, q1)).bind fun e2 =>
some e2.2
/-- TrayBoxModel.swaps(II)V -/
def fX7_swaps (v1 : Int32) (v2 : Int32) (u : S) : Option (S) :=
gd (inb v1 12) <|
gd (inb v2 12) <|
gd (inb v1 12) <|
nm (up u 4 v1.toNatClampNeg (u.1 4 v2.toNatClampNeg)) fun u1 =>
gd (inb v2 12) <|
nm (up u1 4 v2.toNatClampNeg (u.1 4 v1.toNatClampNeg)) fun u2 =>
some u2
/-- TrayBoxModel.ordersNext()Z -/
def gX7_ordersNext_7  (u : S) (a : Int32) : Option ((Int32) ⊕ (Int32)) :=
if a < 0 then
(some (.inl a))
else
(gd (inb a 12) <|
gd (inb (a + 1) 12) <|
if (u.1 4 a.toNatClampNeg) ≤ (u.1 4 (a + 1).toNatClampNeg) then
(some (.inl a))
else
(some (.inr (a + (-1)))))
def gX7_ordersNext_47 (v1 : Int32) (u : S) (a : Int32) : Option ((Int32) ⊕ (Int32)) :=
gd (inb a 12) <|
gd (inb v1 12) <|
if (u.1 4 v1.toNatClampNeg) ≤ (u.1 4 a.toNatClampNeg) then
(some (.inl a))
else
(some (.inr (a + (-1))))
def gX7_ordersNext_86  (a : Int32 × Int32 × S) : Option ((Int32 × Int32 × S) ⊕ (Int32 × Int32 × S)) :=
if a.1 ≤ a.2.1 then
(some (.inl (a.1, a.2.1, a.2.2)))
else
((fX7_swaps a.2.1 a.1 a.2.2).bind fun q107 =>
some (.inr (a.1 + (-1), a.2.1 + 1, q107)))
def fX7_ordersNext  (u : S) : Option (Int32 × S) :=
(fX7_trays u).bind fun q1 =>
(lp (gX7_ordersNext_7  u) FU (q1 - 2)).bind fun e2 =>
if 0 ≤ e2 then
((fX7_trays u).bind fun q3 =>
(lp (gX7_ordersNext_47 e2 u) FU (q3 - 1)).bind fun e4 =>
(fX7_swaps e2 e4 u).bind fun q5 =>
(fX7_trays q5).bind fun q6 =>
(lp (gX7_ordersNext_86 ) FU (q6 - 1, e2 + 1, q5)).bind fun e7 =>
some (1, e7.2.2))
else
(some (0, u))
/-- TrayBoxModel.comesTo(I)I -/
def fX7_comesTo (v1 : Int32) (u : S) : Option (Int32) :=
if v1 = 0 then
((fX7_trays u).bind fun q1 =>
(fX7_inBox u).bind fun q2 =>
some (q1 - q2))
else
(if v1 = 1 then
((fX7_faults u).bind fun q3 =>
some q3)
else
(if v1 = 2 then
((fX7_boxHeight u).bind fun q4 =>
some q4)
else
((fX7_air u).bind fun q5 =>
some q5)))
/-- TrayBoxModel.isBetter()Z -/
def gX7_isBetter_2  (u : S) (a : Int32) : Option (((Int32) ⊕ (Int32)) ⊕ (Int32)) :=
if 4 ≤ a then
(some (.inl (.inr a)))
else
((fX7_comesTo a u).bind fun q101 =>
gd (inb a 4) <|
if q101 = (u.1 6 a.toNatClampNeg) then
(some (.inr (a + 1)))
else
((fX7_comesTo a u).bind fun q102 =>
gd (inb a 4) <|
if (u.1 6 a.toNatClampNeg) ≤ q102 then
(some (.inl (.inl 0)))
else
(some (.inl (.inl 1)))))
def fX7_isBetter  (u : S) : Option (Int32) :=
(lp (gX7_isBetter_2  u) FU 0).bind (Sum.elim (fun x => some x) fun e1 =>
some 0)
/-- TrayBoxModel.ordersBest()V -/
def gX7_ordersBest_2  (a : Int32 × S) : Option ((Int32 × S) ⊕ (Int32 × S)) :=
(fX7_trays a.2).bind fun q101 =>
if q101 ≤ a.1 then
(some (.inl (a.1, a.2)))
else
(gd (inb a.1 12) <|
nm (up a.2 4 a.1.toNatClampNeg a.1) fun u102 =>
some (.inr (a.1 + 1, u102)))
def gX7_ordersBest_48  (a : Int32 × S) : Option ((Int32 × S) ⊕ (Int32 × S)) :=
if 4 ≤ a.1 then
(some (.inl (a.1, a.2)))
else
((fX7_comesTo a.1 a.2).bind fun q205 =>
gd (inb a.1 4) <|
nm (up a.2 6 a.1.toNatClampNeg q205) fun u206 =>
some (.inr (a.1 + 1, u206)))
def gX7_ordersBest_72  (a : Int32 × S) : Option ((Int32 × S) ⊕ (Int32 × S)) :=
(fX7_trays a.2).bind fun q208 =>
if q208 ≤ a.1 then
(some (.inl (a.1, a.2)))
else
(gd (inb a.1 12) <|
gd (inb a.1 12) <|
nm (up a.2 5 a.1.toNatClampNeg (a.2.1 4 a.1.toNatClampNeg)) fun u209 =>
some (.inr (a.1 + 1, u209)))
def gX7_ordersBest_27  (a : Int32 × Int32 × S) : Option ((Int32 × Int32 × S) ⊕ (Int32 × Int32 × S)) :=
if a.2.1 = 0 then
(some (.inl (a.1, a.2.1, a.2.2)))
else
((fX7_packs a.2.2).bind fun q104 =>
if a.1 = 0 then
((fX7_isBetter q104).bind fun q112 =>
if q112 = 0 then
((fX7_ordersNext q104).bind fun q113 =>
some (.inr (0, q113.1, q113.2)))
else
((lp (gX7_ordersBest_48 ) FU (0, q104)).bind fun e114 =>
(lp (gX7_ordersBest_72 ) FU (0, e114.2)).bind fun e117 =>
(fX7_ordersNext e117.2).bind fun q120 =>
some (.inr (0, q120.1, q120.2))))
else
((lp (gX7_ordersBest_48 ) FU (0, q104)).bind fun e105 =>
(lp (gX7_ordersBest_72 ) FU (0, e105.2)).bind fun e108 =>
(fX7_ordersNext e108.2).bind fun q111 =>
some (.inr (0, q111.1, q111.2))))
def gX7_ordersBest_110  (a : Int32 × S) : Option ((Int32 × S) ⊕ (Int32 × S)) :=
(fX7_trays a.2).bind fun q122 =>
if q122 ≤ a.1 then
(some (.inl (a.1, a.2)))
else
(gd (inb a.1 12) <|
gd (inb a.1 12) <|
nm (up a.2 4 a.1.toNatClampNeg (a.2.1 5 a.1.toNatClampNeg)) fun u123 =>
some (.inr (a.1 + 1, u123)))
def fX7_ordersBest  (u : S) : Option (S) :=
(lp (gX7_ordersBest_2 ) FU (0, u)).bind fun e1 =>
(lp (gX7_ordersBest_27 ) FU (1, 1, e1.2)).bind fun e4 =>
(lp (gX7_ordersBest_110 ) FU (0, e4.2.2)).bind fun e22 =>
some e22.2
/-- TrayBoxModel.pack()I -/
def fX7_pack  (u : S) : Option (Int32 × S) :=
(fX7_records u).bind fun q1 =>
(fX7_ordersUsually q1).bind fun q2 =>
(fX7_packs q2).bind fun q3 =>
(fX7_comesTo 0 q3).bind fun q4 =>
some (q4, q3)
/-- TrayBoxModel.packBest()I -/
def fX7_packBest  (u : S) : Option (Int32 × S) :=
(fX7_trays u).bind fun q1 =>
if q1 ≤ 5 then
((fX7_records u).bind fun q2 =>
(fX7_ordersBest q2).bind fun q3 =>
(fX7_packs q3).bind fun q4 =>
(fX7_comesTo 0 q4).bind fun q5 =>
some (q5, q4))
else
(some ((-2), u))
/-- TrayBoxModel.ifPacked(ZI)I -/
def fX7_ifPacked (v1 : Int32) (v2 : Int32) (u : S) : Option (Int32 × S) :=
if v2 < 0 then
(some ((-1), u))
else
((fX7_in v2 4 9 u).bind fun q1 =>
if q1 = 0 then
(if v1 = 0 then
(if v2 < 10 then
((fX7_copies 0 10 u).bind fun q2 =>
if v1 = 0 then
((fX7_ordersUsually q2).bind fun q3 =>
(fX7_packs q3).bind fun q4 =>
if v2 < 10 then
((fX7_comesTo v2 q4).bind fun q5 =>
(fX7_copies 10 0 q4).bind fun q6 =>
some (q5, q6))
else
(gd (inb (v2 - 10) 12) <|
(fX7_copies 10 0 q4).bind fun q7 =>
some (q4.1 4 (v2 - 10).toNatClampNeg, q7)))
else
((fX7_ordersBest q2).bind fun q8 =>
(fX7_packs q8).bind fun q9 =>
if v2 < 10 then
((fX7_comesTo v2 q9).bind fun q10 =>
(fX7_copies 10 0 q9).bind fun q11 =>
some (q10, q11))
else
(gd (inb (v2 - 10) 12) <|
(fX7_copies 10 0 q9).bind fun q12 =>
some (q9.1 4 (v2 - 10).toNatClampNeg, q12))))
else
((fX7_trays u).bind fun q13 =>
if (v2 - 10) < q13 then
((fX7_copies 0 10 u).bind fun q14 =>
if v1 = 0 then
((fX7_ordersUsually q14).bind fun q15 =>
(fX7_packs q15).bind fun q16 =>
if v2 < 10 then
((fX7_comesTo v2 q16).bind fun q17 =>
(fX7_copies 10 0 q16).bind fun q18 =>
some (q17, q18))
else
(gd (inb (v2 - 10) 12) <|
(fX7_copies 10 0 q16).bind fun q19 =>
some (q16.1 4 (v2 - 10).toNatClampNeg, q19)))
else
((fX7_ordersBest q14).bind fun q20 =>
(fX7_packs q20).bind fun q21 =>
if v2 < 10 then
((fX7_comesTo v2 q21).bind fun q22 =>
(fX7_copies 10 0 q21).bind fun q23 =>
some (q22, q23))
else
(gd (inb (v2 - 10) 12) <|
(fX7_copies 10 0 q21).bind fun q24 =>
some (q21.1 4 (v2 - 10).toNatClampNeg, q24))))
else
(some ((-9), u))))
else
((fX7_trays u).bind fun q25 =>
if q25 ≤ 5 then
(if v2 < 10 then
((fX7_copies 0 10 u).bind fun q26 =>
if v1 = 0 then
((fX7_ordersUsually q26).bind fun q27 =>
(fX7_packs q27).bind fun q28 =>
if v2 < 10 then
((fX7_comesTo v2 q28).bind fun q29 =>
(fX7_copies 10 0 q28).bind fun q30 =>
some (q29, q30))
else
(gd (inb (v2 - 10) 12) <|
(fX7_copies 10 0 q28).bind fun q31 =>
some (q28.1 4 (v2 - 10).toNatClampNeg, q31)))
else
((fX7_ordersBest q26).bind fun q32 =>
(fX7_packs q32).bind fun q33 =>
if v2 < 10 then
((fX7_comesTo v2 q33).bind fun q34 =>
(fX7_copies 10 0 q33).bind fun q35 =>
some (q34, q35))
else
(gd (inb (v2 - 10) 12) <|
(fX7_copies 10 0 q33).bind fun q36 =>
some (q33.1 4 (v2 - 10).toNatClampNeg, q36))))
else
((fX7_trays u).bind fun q37 =>
if (v2 - 10) < q37 then
((fX7_copies 0 10 u).bind fun q38 =>
if v1 = 0 then
((fX7_ordersUsually q38).bind fun q39 =>
(fX7_packs q39).bind fun q40 =>
if v2 < 10 then
((fX7_comesTo v2 q40).bind fun q41 =>
(fX7_copies 10 0 q40).bind fun q42 =>
some (q41, q42))
else
(gd (inb (v2 - 10) 12) <|
(fX7_copies 10 0 q40).bind fun q43 =>
some (q40.1 4 (v2 - 10).toNatClampNeg, q43)))
else
((fX7_ordersBest q38).bind fun q44 =>
(fX7_packs q44).bind fun q45 =>
if v2 < 10 then
((fX7_comesTo v2 q45).bind fun q46 =>
(fX7_copies 10 0 q45).bind fun q47 =>
some (q46, q47))
else
(gd (inb (v2 - 10) 12) <|
(fX7_copies 10 0 q45).bind fun q48 =>
some (q45.1 4 (v2 - 10).toNatClampNeg, q48))))
else
(some ((-9), u))))
else
(some ((-2), u))))
else
(some ((-1), u)))
/-- TrayBoxModel.gets(I)I -/
def gX7_gets_33 (v4 : Int32) (a : Int32 × S) : Option ((Int32 × S) ⊕ (Int32 × S)) :=
if a.1 ≤ 0 then
(some (.inl (a.1, a.2)))
else
(gd (inb (a.1 - 1) 12) <|
(fX7_of (a.2.1 7 (a.1 - 1).toNatClampNeg) 9 a.2).bind fun q203 =>
(fX7_of v4 9 a.2).bind fun q204 =>
if q203 ≤ q204 then
(some (.inl (a.1, a.2)))
else
(gd (inb (a.1 - 1) 12) <|
gd (inb a.1 12) <|
nm (up a.2 7 a.1.toNatClampNeg (a.2.1 7 (a.1 - 1).toNatClampNeg)) fun u205 =>
some (.inr (a.1 + (-1), u205))))
def gX7_gets_11 (v2 : Int32) (a : Int32 × Int32 × S) : Option ((Int32 × Int32 × S) ⊕ (Int32 × Int32 × S)) :=
(fX7_trays a.2.2).bind fun q102 =>
if q102 ≤ a.2.1 then
(some (.inl (a.1, a.2.1, a.2.2)))
else
(if ((v2 >>> (a.2.1 &&& 31)) &&& 1) = 1 then
((lp (gX7_gets_33 a.2.1) FU (a.1, a.2.2)).bind fun e103 =>
gd (inb e103.1 12) <|
nm (up e103.2 7 e103.1.toNatClampNeg a.2.1) fun u107 =>
some (.inr (a.1 + 1, a.2.1 + 1, u107)))
else
(some (.inr (a.1, a.2.1 + 1, a.2.2))))
def gX7_gets_112 (v3 : Int32) (a : Int32 × S) : Option ((Int32 × S) ⊕ (Int32 × S)) :=
if v3 ≤ a.1 then
(some (.inl (a.1, a.2)))
else
(gd (inb a.1 12) <|
(fX7_sets (a.2.1 7 a.1.toNatClampNeg) 5 0 a.2).bind fun q110 =>
some (.inr (a.1 + 1, q110)))
def gX7_gets_140 (v3 : Int32) (a : Int32 × S) : Option ((Int32 × S) ⊕ (Int32 × S)) :=
if v3 ≤ a.1 then
(some (.inl (a.1, a.2)))
else
(gd (inb a.1 12) <|
gd (inb a.1 12) <|
(fX7_of (a.2.1 7 a.1.toNatClampNeg) 7 a.2).bind fun q112 =>
gd (inb a.1 12) <|
(fX7_of (a.2.1 7 a.1.toNatClampNeg) 8 a.2).bind fun q113 =>
gd (inb a.1 12) <|
(fX7_of (a.2.1 7 a.1.toNatClampNeg) 6 a.2).bind fun q114 =>
(fX7_comes (a.2.1 7 a.1.toNatClampNeg) q112 q113 q114 a.2).bind fun q115 =>
some (.inr (a.1 + 1, q115)))
def fX7_gets (v1 : Int32) (u : S) : Option (Int32 × S) :=
(fX7_above v1 u).bind fun q1 =>
(lp (gX7_gets_11 q1) FU (0, 0, u)).bind fun e2 =>
(fX7_leaves v1 e2.2.2).bind fun q9 =>
(lp (gX7_gets_112 e2.1) FU (0, q9)).bind fun e10 =>
(lp (gX7_gets_140 e2.1) FU (0, e10.2)).bind fun e12 =>
some (e2.1, e12.2)
/-- TrayBoxModel.plays(I)I -/
def gX7_plays_17 (v1 : Int32) (v4 : Int32) (a : Int32 × Int32 × Int32 × S) : Option ((Int32 × Int32 × Int32 × S) ⊕ (Int32 × Int32 × Int32 × S)) :=
(fX7_trays a.2.2.2).bind fun q201 =>
if q201 ≤ a.2.2.1 then
(some (.inl (a.1, a.2.1, a.2.2.1, a.2.2.2)))
else
(if a.2.1 = 0 then
(some (.inr (a.1, a.2.1, a.2.2.1 + 1, a.2.2.2)))
else
((fX7_isIn a.2.2.1 a.2.2.2).bind fun q202 =>
if q202 = 0 then
(some (.inr (a.1, a.2.1, a.2.2.1 + 1, a.2.2.2)))
else
((fX7_of a.2.2.1 3 a.2.2.2).bind fun q203 =>
if q203 = v4 then
((fX7_gets a.2.2.1 a.2.2.2).bind fun q204 =>
if a.2.2.1 = v1 then
(some (.inr (a.1 + q204.1, 0, a.2.2.1 + 1, q204.2)))
else
(some (.inr (a.1 + q204.1, 1, a.2.2.1 + 1, q204.2))))
else
(some (.inr (a.1, a.2.1, a.2.2.1 + 1, a.2.2.2))))))
def gX7_plays_7 (v1 : Int32) (a : Int32 × Int32 × Int32 × S) : Option ((Int32 × Int32 × Int32 × S) ⊕ (Int32 × Int32 × Int32 × S)) :=
if 10 ≤ a.2.2.1 then
(some (.inl (a.1, a.2.1, a.2.2.1, a.2.2.2)))
else
((lp (gX7_plays_17 v1 a.2.2.1) FU (a.1, a.2.1, 0, a.2.2.2)).bind fun e101 =>
some (.inr (e101.1, e101.2.1, a.2.2.1 + 1, e101.2.2.2)))
def fX7_plays (v1 : Int32) (u : S) : Option (Int32 × S) :=
(lp (gX7_plays_7 v1) FU (0, 1, 0, u)).bind fun e1 =>
some (e1.1, e1.2.2.2)
/-- TrayBoxModel.play()I -/
def fX7_play  (u : S) : Option (Int32 × S) :=
(fX7_records u).bind fun q1 =>
(fX7_plays (-9) q1).bind fun q2 =>
some (q2.1, q2.2)
/-- TrayBoxModel.liftsTo(I)I -/
def fX7_liftsTo (v1 : Int32) (u : S) : Option (Int32 × S) :=
(fX7_isTray v1 u).bind fun q1 =>
if q1 = 0 then
(some ((-1), u))
else
((fX7_isIn v1 u).bind fun q2 =>
if q2 = 0 then
(some ((-2), u))
else
((fX7_copies 0 10 u).bind fun q3 =>
(fX7_plays v1 q3).bind fun q4 =>
(fX7_copies 10 0 q4.2).bind fun q5 =>
some (q4.1, q5)))
/-- TrayBoxModel.count(I)I -/
def fX7_count (v1 : Int32) (u : S) : Option (Int32) :=
if v1 = 0 then
(gd (inb v1 1375) <|
some (u.1 1 v1.toNatClampNeg))
else
(if v1 = 1 then
(gd (inb v1 1375) <|
some (u.1 1 v1.toNatClampNeg))
else
(if v1 = 2 then
(gd (inb v1 1375) <|
some (u.1 1 v1.toNatClampNeg))
else
(if v1 = 3 then
(gd (inb v1 1375) <|
some (u.1 1 v1.toNatClampNeg))
else
(if v1 = 4 then
(gd (inb v1 1375) <|
some (u.1 1 v1.toNatClampNeg))
else
(if v1 = 5 then
((fX7_inBox u).bind fun q1 =>
some q1)
else
(if v1 = 6 then
((fX7_frees u).bind fun q2 =>
some q2)
else
(if v1 = 7 then
((fX7_boxHeight u).bind fun q3 =>
some q3)
else
(if v1 = 8 then
((fX7_air u).bind fun q4 =>
some q4)
else
(if v1 = 9 then
((fX7_faults u).bind fun q5 =>
some q5)
else
(if v1 = 10 then
((fX7_lifts u).bind fun q6 =>
some q6)
else
(if v1 = 11 then
(some (u.1 0 6))
else
(if v1 = 12 then
(some (u.1 0 1))
else
(some (-1))))))))))))))
/-- TrayBoxModel.mixes(I)V -/
def fX7_mixes (v1 : Int32) (u : S) : Option (S) :=
nm (uh u ((31 * u.2) + v1.toInt64)) fun u1 =>
some u1
/-- TrayBoxModel.digest()J -/
def gX7_digest_9  (a : Int32 × S) : Option ((Int32 × S) ⊕ (Int32 × S)) :=
if 13 ≤ a.1 then
(some (.inl (a.1, a.2)))
else
((fX7_count a.1 a.2).bind fun q102 =>
(fX7_mixes q102 a.2).bind fun q103 =>
some (.inr (a.1 + 1, q103)))
def gX7_digest_42 (v1 : Int32) (a : Int32 × S) : Option ((Int32 × S) ⊕ (Int32 × S)) :=
if 16 ≤ a.1 then
(some (.inl (a.1, a.2)))
else
((fX7_tray v1 a.1 a.2).bind fun q206 =>
(fX7_mixes q206 a.2).bind fun q207 =>
some (.inr (a.1 + 1, q207)))
def gX7_digest_32  (a : Int32 × S) : Option ((Int32 × S) ⊕ (Int32 × S)) :=
(fX7_trays a.2).bind fun q105 =>
if q105 ≤ a.1 then
(some (.inl (a.1, a.2)))
else
((lp (gX7_digest_42 a.1) FU (0, a.2)).bind fun e106 =>
(fX7_place a.1 0 e106.2).bind fun q109 =>
(fX7_mixes q109.1 q109.2).bind fun q110 =>
(fX7_place a.1 3 q110).bind fun q111 =>
(fX7_mixes q111.1 q111.2).bind fun q112 =>
some (.inr (a.1 + 1, q112)))
def gX7_digest_104 (v1 : Int32) (a : Int32 × S) : Option ((Int32 × S) ⊕ (Int32 × S)) :=
gd (inb 1 1375) <|
if (a.2.1 1 (1 : Int32).toNatClampNeg) ≤ a.1 then
(some (.inl (a.1, a.2)))
else
((fX7_seen v1 a.1 0 a.2).bind fun q214 =>
(fX7_mixes q214 a.2).bind fun q215 =>
(fX7_seen v1 a.1 1 q215).bind fun q216 =>
(fX7_mixes q216 q215).bind fun q217 =>
some (.inr (a.1 + 1, q217)))
def gX7_digest_92  (a : Int32 × S) : Option ((Int32 × S) ⊕ (Int32 × S)) :=
gd (inb 0 1375) <|
if (a.2.1 1 (0 : Int32).toNatClampNeg) ≤ a.1 then
(some (.inl (a.1, a.2)))
else
((lp (gX7_digest_104 a.1) FU (0, a.2)).bind fun e114 =>
some (.inr (a.1 + 1, e114.2)))
def gX7_digest_150  (a : Int32 × S) : Option ((Int32 × S) ⊕ (Int32 × S)) :=
if 4 ≤ a.1 then
(some (.inl (a.1, a.2)))
else
((fX7_ifPacked 0 a.1 a.2).bind fun q120 =>
(fX7_mixes q120.1 q120.2).bind fun q121 =>
some (.inr (a.1 + 1, q121)))
def gX7_digest_173  (a : Int32 × S) : Option ((Int32 × S) ⊕ (Int32 × S)) :=
(fX7_trays a.2).bind fun q123 =>
if q123 ≤ a.1 then
(some (.inl (a.1, a.2)))
else
((fX7_isIn a.1 a.2).bind fun q124 =>
if q124 = 0 then
(some (.inr (a.1 + 1, a.2)))
else
((fX7_liftsTo a.1 a.2).bind fun q125 =>
(fX7_mixes q125.1 q125.2).bind fun q126 =>
some (.inr (a.1 + 1, q126))))
def fX7_digest  (u : S) : Option (Int64 × S) :=
nm (uh u 43160) fun u1 =>
(lp (gX7_digest_9 ) FU (0, u1)).bind fun e2 =>
(lp (gX7_digest_32 ) FU (0, e2.2)).bind fun e5 =>
(lp (gX7_digest_92 ) FU (0, e5.2)).bind fun e14 =>
(lp (gX7_digest_150 ) FU (0, e14.2)).bind fun e20 =>
(lp (gX7_digest_173 ) FU (0, e20.2)).bind fun e23 =>
some (e23.2.2, e23.2)
end
section
def wJ6_bitCount_0f7a4 : List Cond := .code yJ6_bitCount_0f7a4 cJ6_bitCount_0f7a4 1 (some .int) :: lwT
def rJ6_bitCount_0f7a4 : Room := { frames := 0, cells := 0, slots := 0, locals := 0 }
set_option maxRecDepth 100000 in
set_option maxHeartbeats 4000000 in
theorem kJ6_bitCount_0f7a4 (l : Launch) (D : va_G) (y : Nat → ClassId) (ad : Nat → Nat) (hI : XI ad 168) (v0 : Int32) (u : S) {o : Int32} (hf : fJ6_bitCount_0f7a4 v0 u = some o) : Met l yJ6_bitCount_0f7a4 wJ6_bitCount_0f7a4 rJ6_bitCount_0f7a4 (va_Pc [.int v0] (XW D y ad LX 168 u)) (XQi D y ad LX 168 (o, u)) 0 0 (XA ad 168) := by
  refine x_met (bytes := cJ6_bitCount_0f7a4) (maxL := 1) (ret := (some .int)) (own := RJ6) (by decide) rfl rfl (Nat.le_of_ble_eq_true rfl) (fun p e s m below meth c ls C0 hK hk hr hw hl => ?_)
  have hl : lv_has ls 1 [(0, .int v0)] := hl
  unfold fJ6_bitCount_0f7a4 at hf
  refine lv_iload_n (pc := 0) C0.1 C0.2.1 dJ6_bitCount_0f7a4_0 rfl (lv_at hl 0 rfl) ?_
  refine lv_iload_n (pc := 1) C0.1 C0.2.1 dJ6_bitCount_0f7a4_1 rfl (lv_at hl 0 rfl) ?_
  refine lv_iconst (v := 1) (pc := 2) C0.1 C0.2.1 dJ6_bitCount_0f7a4_2 (by decide) ?_
  refine lv_iushr (pc := 3) C0.1 C0.2.1 dJ6_bitCount_0f7a4_3 rfl ?_
  refine lv_ldcw (pc := 4) C0.1 C0.2.1 C0.2.2.2.1 (C0.2.2.2.2 _ wk_J6_265) dJ6_bitCount_0f7a4_4 ?_
  refine lv_iand (pc := 7) C0.1 C0.2.1 dJ6_bitCount_0f7a4_7 ?_
  refine lv_isub (pc := 8) C0.1 C0.2.1 dJ6_bitCount_0f7a4_8 ?_
  refine lv_istore_n (pc := 9) (lv' := [(0, .int (v0 - (((v0.toUInt32 >>> ((1 : Int32).toUInt32 &&& Int32.toUInt32 31)).toInt32) &&& 1431655765)))]) C0.1 C0.2.1 dJ6_bitCount_0f7a4_9 rfl hl (by decide) rfl (fun ls hl => ?_)
  refine lv_iload_n (pc := 10) C0.1 C0.2.1 dJ6_bitCount_0f7a4_10 rfl (lv_at hl 0 rfl) ?_
  refine lv_ldcw (pc := 11) C0.1 C0.2.1 C0.2.2.2.1 (C0.2.2.2.2 _ wk_J6_266) dJ6_bitCount_0f7a4_11 ?_
  refine lv_iand (pc := 14) C0.1 C0.2.1 dJ6_bitCount_0f7a4_14 ?_
  refine lv_iload_n (pc := 15) C0.1 C0.2.1 dJ6_bitCount_0f7a4_15 rfl (lv_at hl 0 rfl) ?_
  refine lv_iconst (v := 2) (pc := 16) C0.1 C0.2.1 dJ6_bitCount_0f7a4_16 (by decide) ?_
  refine lv_iushr (pc := 17) C0.1 C0.2.1 dJ6_bitCount_0f7a4_17 rfl ?_
  refine lv_ldcw (pc := 18) C0.1 C0.2.1 C0.2.2.2.1 (C0.2.2.2.2 _ wk_J6_266) dJ6_bitCount_0f7a4_18 ?_
  refine lv_iand (pc := 21) C0.1 C0.2.1 dJ6_bitCount_0f7a4_21 ?_
  refine lv_iadd (pc := 22) C0.1 C0.2.1 dJ6_bitCount_0f7a4_22 ?_
  refine lv_istore_n (pc := 23) (lv' := [(0, .int (((v0 - (((v0.toUInt32 >>> ((1 : Int32).toUInt32 &&& Int32.toUInt32 31)).toInt32) &&& 1431655765)) &&& 858993459) + ((((v0 - (((v0.toUInt32 >>> ((1 : Int32).toUInt32 &&& Int32.toUInt32 31)).toInt32) &&& 1431655765)).toUInt32 >>> ((2 : Int32).toUInt32 &&& Int32.toUInt32 31)).toInt32) &&& 858993459)))]) C0.1 C0.2.1 dJ6_bitCount_0f7a4_23 rfl hl (by decide) rfl (fun ls hl => ?_)
  refine lv_iload_n (pc := 24) C0.1 C0.2.1 dJ6_bitCount_0f7a4_24 rfl (lv_at hl 0 rfl) ?_
  refine lv_iload_n (pc := 25) C0.1 C0.2.1 dJ6_bitCount_0f7a4_25 rfl (lv_at hl 0 rfl) ?_
  refine lv_iconst (v := 4) (pc := 26) C0.1 C0.2.1 dJ6_bitCount_0f7a4_26 (by decide) ?_
  refine lv_iushr (pc := 27) C0.1 C0.2.1 dJ6_bitCount_0f7a4_27 rfl ?_
  refine lv_iadd (pc := 28) C0.1 C0.2.1 dJ6_bitCount_0f7a4_28 ?_
  refine lv_ldcw (pc := 29) C0.1 C0.2.1 C0.2.2.2.1 (C0.2.2.2.2 _ wk_J6_267) dJ6_bitCount_0f7a4_29 ?_
  refine lv_iand (pc := 32) C0.1 C0.2.1 dJ6_bitCount_0f7a4_32 ?_
  refine lv_istore_n (pc := 33) (lv' := [(0, .int (((((v0 - (((v0.toUInt32 >>> ((1 : Int32).toUInt32 &&& Int32.toUInt32 31)).toInt32) &&& 1431655765)) &&& 858993459) + ((((v0 - (((v0.toUInt32 >>> ((1 : Int32).toUInt32 &&& Int32.toUInt32 31)).toInt32) &&& 1431655765)).toUInt32 >>> ((2 : Int32).toUInt32 &&& Int32.toUInt32 31)).toInt32) &&& 858993459)) + (((((v0 - (((v0.toUInt32 >>> ((1 : Int32).toUInt32 &&& Int32.toUInt32 31)).toInt32) &&& 1431655765)) &&& 858993459) + ((((v0 - (((v0.toUInt32 >>> ((1 : Int32).toUInt32 &&& Int32.toUInt32 31)).toInt32) &&& 1431655765)).toUInt32 >>> ((2 : Int32).toUInt32 &&& Int32.toUInt32 31)).toInt32) &&& 858993459)).toUInt32 >>> ((4 : Int32).toUInt32 &&& Int32.toUInt32 31)).toInt32)) &&& 252645135))]) C0.1 C0.2.1 dJ6_bitCount_0f7a4_33 rfl hl (by decide) rfl (fun ls hl => ?_)
  refine lv_iload_n (pc := 34) C0.1 C0.2.1 dJ6_bitCount_0f7a4_34 rfl (lv_at hl 0 rfl) ?_
  refine lv_iload_n (pc := 35) C0.1 C0.2.1 dJ6_bitCount_0f7a4_35 rfl (lv_at hl 0 rfl) ?_
  refine lv_bipush (v := 8) (pc := 36) C0.1 C0.2.1 dJ6_bitCount_0f7a4_36 (by decide) ?_
  refine lv_iushr (pc := 38) C0.1 C0.2.1 dJ6_bitCount_0f7a4_38 rfl ?_
  refine lv_iadd (pc := 39) C0.1 C0.2.1 dJ6_bitCount_0f7a4_39 ?_
  refine lv_istore_n (pc := 40) (lv' := [(0, .int ((((((v0 - (((v0.toUInt32 >>> ((1 : Int32).toUInt32 &&& Int32.toUInt32 31)).toInt32) &&& 1431655765)) &&& 858993459) + ((((v0 - (((v0.toUInt32 >>> ((1 : Int32).toUInt32 &&& Int32.toUInt32 31)).toInt32) &&& 1431655765)).toUInt32 >>> ((2 : Int32).toUInt32 &&& Int32.toUInt32 31)).toInt32) &&& 858993459)) + (((((v0 - (((v0.toUInt32 >>> ((1 : Int32).toUInt32 &&& Int32.toUInt32 31)).toInt32) &&& 1431655765)) &&& 858993459) + ((((v0 - (((v0.toUInt32 >>> ((1 : Int32).toUInt32 &&& Int32.toUInt32 31)).toInt32) &&& 1431655765)).toUInt32 >>> ((2 : Int32).toUInt32 &&& Int32.toUInt32 31)).toInt32) &&& 858993459)).toUInt32 >>> ((4 : Int32).toUInt32 &&& Int32.toUInt32 31)).toInt32)) &&& 252645135) + (((((((v0 - (((v0.toUInt32 >>> ((1 : Int32).toUInt32 &&& Int32.toUInt32 31)).toInt32) &&& 1431655765)) &&& 858993459) + ((((v0 - (((v0.toUInt32 >>> ((1 : Int32).toUInt32 &&& Int32.toUInt32 31)).toInt32) &&& 1431655765)).toUInt32 >>> ((2 : Int32).toUInt32 &&& Int32.toUInt32 31)).toInt32) &&& 858993459)) + (((((v0 - (((v0.toUInt32 >>> ((1 : Int32).toUInt32 &&& Int32.toUInt32 31)).toInt32) &&& 1431655765)) &&& 858993459) + ((((v0 - (((v0.toUInt32 >>> ((1 : Int32).toUInt32 &&& Int32.toUInt32 31)).toInt32) &&& 1431655765)).toUInt32 >>> ((2 : Int32).toUInt32 &&& Int32.toUInt32 31)).toInt32) &&& 858993459)).toUInt32 >>> ((4 : Int32).toUInt32 &&& Int32.toUInt32 31)).toInt32)) &&& 252645135).toUInt32 >>> ((8 : Int32).toUInt32 &&& Int32.toUInt32 31)).toInt32)))]) C0.1 C0.2.1 dJ6_bitCount_0f7a4_40 rfl hl (by decide) rfl (fun ls hl => ?_)
  refine lv_iload_n (pc := 41) C0.1 C0.2.1 dJ6_bitCount_0f7a4_41 rfl (lv_at hl 0 rfl) ?_
  refine lv_iload_n (pc := 42) C0.1 C0.2.1 dJ6_bitCount_0f7a4_42 rfl (lv_at hl 0 rfl) ?_
  refine lv_bipush (v := 16) (pc := 43) C0.1 C0.2.1 dJ6_bitCount_0f7a4_43 (by decide) ?_
  refine lv_iushr (pc := 45) C0.1 C0.2.1 dJ6_bitCount_0f7a4_45 rfl ?_
  refine lv_iadd (pc := 46) C0.1 C0.2.1 dJ6_bitCount_0f7a4_46 ?_
  refine lv_istore_n (pc := 47) (lv' := [(0, .int (((((((v0 - (((v0.toUInt32 >>> ((1 : Int32).toUInt32 &&& Int32.toUInt32 31)).toInt32) &&& 1431655765)) &&& 858993459) + ((((v0 - (((v0.toUInt32 >>> ((1 : Int32).toUInt32 &&& Int32.toUInt32 31)).toInt32) &&& 1431655765)).toUInt32 >>> ((2 : Int32).toUInt32 &&& Int32.toUInt32 31)).toInt32) &&& 858993459)) + (((((v0 - (((v0.toUInt32 >>> ((1 : Int32).toUInt32 &&& Int32.toUInt32 31)).toInt32) &&& 1431655765)) &&& 858993459) + ((((v0 - (((v0.toUInt32 >>> ((1 : Int32).toUInt32 &&& Int32.toUInt32 31)).toInt32) &&& 1431655765)).toUInt32 >>> ((2 : Int32).toUInt32 &&& Int32.toUInt32 31)).toInt32) &&& 858993459)).toUInt32 >>> ((4 : Int32).toUInt32 &&& Int32.toUInt32 31)).toInt32)) &&& 252645135) + (((((((v0 - (((v0.toUInt32 >>> ((1 : Int32).toUInt32 &&& Int32.toUInt32 31)).toInt32) &&& 1431655765)) &&& 858993459) + ((((v0 - (((v0.toUInt32 >>> ((1 : Int32).toUInt32 &&& Int32.toUInt32 31)).toInt32) &&& 1431655765)).toUInt32 >>> ((2 : Int32).toUInt32 &&& Int32.toUInt32 31)).toInt32) &&& 858993459)) + (((((v0 - (((v0.toUInt32 >>> ((1 : Int32).toUInt32 &&& Int32.toUInt32 31)).toInt32) &&& 1431655765)) &&& 858993459) + ((((v0 - (((v0.toUInt32 >>> ((1 : Int32).toUInt32 &&& Int32.toUInt32 31)).toInt32) &&& 1431655765)).toUInt32 >>> ((2 : Int32).toUInt32 &&& Int32.toUInt32 31)).toInt32) &&& 858993459)).toUInt32 >>> ((4 : Int32).toUInt32 &&& Int32.toUInt32 31)).toInt32)) &&& 252645135).toUInt32 >>> ((8 : Int32).toUInt32 &&& Int32.toUInt32 31)).toInt32)) + ((((((((v0 - (((v0.toUInt32 >>> ((1 : Int32).toUInt32 &&& Int32.toUInt32 31)).toInt32) &&& 1431655765)) &&& 858993459) + ((((v0 - (((v0.toUInt32 >>> ((1 : Int32).toUInt32 &&& Int32.toUInt32 31)).toInt32) &&& 1431655765)).toUInt32 >>> ((2 : Int32).toUInt32 &&& Int32.toUInt32 31)).toInt32) &&& 858993459)) + (((((v0 - (((v0.toUInt32 >>> ((1 : Int32).toUInt32 &&& Int32.toUInt32 31)).toInt32) &&& 1431655765)) &&& 858993459) + ((((v0 - (((v0.toUInt32 >>> ((1 : Int32).toUInt32 &&& Int32.toUInt32 31)).toInt32) &&& 1431655765)).toUInt32 >>> ((2 : Int32).toUInt32 &&& Int32.toUInt32 31)).toInt32) &&& 858993459)).toUInt32 >>> ((4 : Int32).toUInt32 &&& Int32.toUInt32 31)).toInt32)) &&& 252645135) + (((((((v0 - (((v0.toUInt32 >>> ((1 : Int32).toUInt32 &&& Int32.toUInt32 31)).toInt32) &&& 1431655765)) &&& 858993459) + ((((v0 - (((v0.toUInt32 >>> ((1 : Int32).toUInt32 &&& Int32.toUInt32 31)).toInt32) &&& 1431655765)).toUInt32 >>> ((2 : Int32).toUInt32 &&& Int32.toUInt32 31)).toInt32) &&& 858993459)) + (((((v0 - (((v0.toUInt32 >>> ((1 : Int32).toUInt32 &&& Int32.toUInt32 31)).toInt32) &&& 1431655765)) &&& 858993459) + ((((v0 - (((v0.toUInt32 >>> ((1 : Int32).toUInt32 &&& Int32.toUInt32 31)).toInt32) &&& 1431655765)).toUInt32 >>> ((2 : Int32).toUInt32 &&& Int32.toUInt32 31)).toInt32) &&& 858993459)).toUInt32 >>> ((4 : Int32).toUInt32 &&& Int32.toUInt32 31)).toInt32)) &&& 252645135).toUInt32 >>> ((8 : Int32).toUInt32 &&& Int32.toUInt32 31)).toInt32)).toUInt32 >>> ((16 : Int32).toUInt32 &&& Int32.toUInt32 31)).toInt32)))]) C0.1 C0.2.1 dJ6_bitCount_0f7a4_47 rfl hl (by decide) rfl (fun ls hl => ?_)
  refine lv_iload_n (pc := 48) C0.1 C0.2.1 dJ6_bitCount_0f7a4_48 rfl (lv_at hl 0 rfl) ?_
  refine lv_bipush (v := 63) (pc := 49) C0.1 C0.2.1 dJ6_bitCount_0f7a4_49 (by decide) ?_
  refine lv_iand (pc := 51) C0.1 C0.2.1 dJ6_bitCount_0f7a4_51 ?_
  exact x_iret (pc := 52) C0 hK hk hr hw (congrArg (fun z => (z, u)) (Option.some.inj hf)) dJ6_bitCount_0f7a4_52
def wX6_isWithin : List Cond := .code yX6_isWithin cX6_isWithin 3 (some .boolean) :: lwT
def rX6_isWithin : Room := { frames := 0, cells := 0, slots := 0, locals := 0 }
set_option maxRecDepth 100000 in
set_option maxHeartbeats 4000000 in
theorem kX6_isWithin (l : Launch) (D : va_G) (y : Nat → ClassId) (ad : Nat → Nat) (hI : XI ad 168) (v0 : Int32) (v1 : Int32) (v2 : Int32) (u : S) {o : Int32} (hf : fX6_isWithin v0 v1 v2 u = some o) : Met l yX6_isWithin wX6_isWithin rX6_isWithin (va_Pc [.int v0, .int v1, .int v2] (XW D y ad LX 168 u)) (XQi D y ad LX 168 (o, u)) 0 0 (XA ad 168) := by
  refine x_met (bytes := cX6_isWithin) (maxL := 3) (ret := (some .boolean)) (own := RX6) (by decide) rfl rfl (Nat.le_of_ble_eq_true rfl) (fun p e s m below meth c ls C0 hK hk hr hw hl => ?_)
  have hl : lv_has ls 3 [(0, .int v0), (1, .int v1), (2, .int v2)] := hl
  unfold fX6_isWithin at hf
  refine lv_iload_n (pc := 0) C0.1 C0.2.1 dX6_isWithin_0 rfl (lv_at hl 0 rfl) ?_
  refine lv_iload_n (pc := 1) C0.1 C0.2.1 dX6_isWithin_1 rfl (lv_at hl 1 rfl) ?_
  refine lv_icmp_lt (tgt := 14) (pc := 2) C0.1 C0.2.1 dX6_isWithin_2 (by decide) (fun hc => ?_) (fun hc => ?_)
  · have hf := if_t hf hc
    refine lv_iconst (v := 0) (pc := 14) C0.1 C0.2.1 dX6_isWithin_14 (by decide) ?_
    exact x_zret (pc := 15) C0 hK hk hr hw rfl (congrArg (fun z => (z, u)) (Option.some.inj hf)) dX6_isWithin_15
  · have hf := if_f hf hc
    refine lv_iload_n (pc := 5) C0.1 C0.2.1 dX6_isWithin_5 rfl (lv_at hl 0 rfl) ?_
    refine lv_iload_n (pc := 6) C0.1 C0.2.1 dX6_isWithin_6 rfl (lv_at hl 2 rfl) ?_
    refine lv_icmp_gt (tgt := 14) (pc := 7) C0.1 C0.2.1 dX6_isWithin_7 (by decide) (fun hc => ?_) (fun hc => ?_)
    · have hf := if_t hf hc
      refine lv_iconst (v := 0) (pc := 14) C0.1 C0.2.1 dX6_isWithin_14 (by decide) ?_
      exact x_zret (pc := 15) C0 hK hk hr hw rfl (congrArg (fun z => (z, u)) (Option.some.inj hf)) dX6_isWithin_15
    · have hf := if_f hf hc
      refine lv_iconst (v := 1) (pc := 10) C0.1 C0.2.1 dX6_isWithin_10 (by decide) ?_
      refine lv_goto (tgt := 15) (pc := 11) C0.1 C0.2.1 dX6_isWithin_11 (by decide) ?_
      exact x_zret (pc := 15) C0 hK hk hr hw rfl (congrArg (fun z => (z, u)) (Option.some.inj hf)) dX6_isWithin_15
end
section
def wX5_copyFrom : List Cond := .code yX5_copyFrom cX5_copyFrom 2 none :: lwT
def rX5_copyFrom : Room := { frames := 0, cells := 0, slots := 0, locals := 0 }
set_option maxRecDepth 100000 in
set_option maxHeartbeats 4000000 in
theorem kX5_copyFrom (l : Launch) (D : va_G) (y : Nat → ClassId) (ad : Nat → Nat) (hI : XI ad 168) (v0 : Nat) (hv0 : v0 < 132) (v1 : Nat) (hv1 : v1 < 132) (u : S) {o : S} (hf : fX5_copyFrom v0 v1 u = some o) : Met l yX5_copyFrom wX5_copyFrom rX5_copyFrom (va_Pc [.ref (ad v0), .ref (ad v1)] (XW D y ad LX 168 u)) (XQv D y ad LX 168 o) 0 0 (XA ad 168) := by
  refine x_met (bytes := cX5_copyFrom) (maxL := 2) (ret := none) (own := RX5) (by decide) rfl rfl (Nat.le_of_ble_eq_true rfl) (fun p e s m below meth c ls C0 hK hk hr hw hl => ?_)
  have hl : lv_has ls 2 [(0, .ref (ad v0)), (1, .ref (ad v1))] := hl
  unfold fX5_copyFrom at hf
  refine lv_aload_n (pc := 0) C0.1 C0.2.1 dX5_copyFrom_0 rfl (lv_at hl 0 rfl) ?_
  refine lv_aload_n (pc := 1) C0.1 C0.2.1 dX5_copyFrom_1 rfl (lv_at hl 1 rfl) ?_
  refine x_get (pc := 2) (v := .int (u.1 v1 0)) C0 hK hw (jy_T hv1) (ly_T hv1) rfl inX5 0 (by decide) wf_X5_7 rfl rfl dX5_copyFrom_2 ?_
  obtain ⟨u1, hu, hf⟩ := nm_f hf
  refine x_put (pc := 5) hI C0 hK hw (jy_T hv0) (ly_T hv0) rfl inX5 tyX5_ok nmX5 0 (by decide) wf_X5_7 rfl rfl rfl hu rfl rfl dX5_copyFrom_5 (fun H locs hw => ?_)
  refine lv_aload_n (pc := 8) C0.1 C0.2.1 dX5_copyFrom_8 rfl (lv_at hl 0 rfl) ?_
  refine lv_aload_n (pc := 9) C0.1 C0.2.1 dX5_copyFrom_9 rfl (lv_at hl 1 rfl) ?_
  refine x_get (pc := 10) (v := .int (u1.1 v1 1)) C0 hK hw (jy_T hv1) (ly_T hv1) rfl inX5 1 (by decide) wf_X5_13 rfl rfl dX5_copyFrom_10 ?_
  obtain ⟨u2, hu, hf⟩ := nm_f hf
  refine x_put (pc := 13) hI C0 hK hw (jy_T hv0) (ly_T hv0) rfl inX5 tyX5_ok nmX5 1 (by decide) wf_X5_13 rfl rfl rfl hu rfl rfl dX5_copyFrom_13 (fun H locs hw => ?_)
  refine lv_aload_n (pc := 16) C0.1 C0.2.1 dX5_copyFrom_16 rfl (lv_at hl 0 rfl) ?_
  refine lv_aload_n (pc := 17) C0.1 C0.2.1 dX5_copyFrom_17 rfl (lv_at hl 1 rfl) ?_
  refine x_get (pc := 18) (v := .int (u2.1 v1 2)) C0 hK hw (jy_T hv1) (ly_T hv1) rfl inX5 2 (by decide) wf_X5_16 rfl rfl dX5_copyFrom_18 ?_
  obtain ⟨u3, hu, hf⟩ := nm_f hf
  refine x_put (pc := 21) hI C0 hK hw (jy_T hv0) (ly_T hv0) rfl inX5 tyX5_ok nmX5 2 (by decide) wf_X5_16 rfl rfl rfl hu rfl rfl dX5_copyFrom_21 (fun H locs hw => ?_)
  refine lv_aload_n (pc := 24) C0.1 C0.2.1 dX5_copyFrom_24 rfl (lv_at hl 0 rfl) ?_
  refine lv_aload_n (pc := 25) C0.1 C0.2.1 dX5_copyFrom_25 rfl (lv_at hl 1 rfl) ?_
  refine x_get (pc := 26) (v := .int (u3.1 v1 3)) C0 hK hw (jy_T hv1) (ly_T hv1) rfl inX5 3 (by decide) wf_X5_19 rfl rfl dX5_copyFrom_26 ?_
  obtain ⟨u4, hu, hf⟩ := nm_f hf
  refine x_put (pc := 29) hI C0 hK hw (jy_T hv0) (ly_T hv0) rfl inX5 tyX5_ok nmX5 3 (by decide) wf_X5_19 rfl rfl rfl hu rfl rfl dX5_copyFrom_29 (fun H locs hw => ?_)
  refine lv_aload_n (pc := 32) C0.1 C0.2.1 dX5_copyFrom_32 rfl (lv_at hl 0 rfl) ?_
  refine lv_aload_n (pc := 33) C0.1 C0.2.1 dX5_copyFrom_33 rfl (lv_at hl 1 rfl) ?_
  refine x_get (pc := 34) (v := .int (u4.1 v1 4)) C0 hK hw (jy_T hv1) (ly_T hv1) rfl inX5 4 (by decide) wf_X5_22 rfl rfl dX5_copyFrom_34 ?_
  obtain ⟨u5, hu, hf⟩ := nm_f hf
  refine x_put (pc := 37) hI C0 hK hw (jy_T hv0) (ly_T hv0) rfl inX5 tyX5_ok nmX5 4 (by decide) wf_X5_22 rfl rfl rfl hu rfl rfl dX5_copyFrom_37 (fun H locs hw => ?_)
  refine lv_aload_n (pc := 40) C0.1 C0.2.1 dX5_copyFrom_40 rfl (lv_at hl 0 rfl) ?_
  refine lv_aload_n (pc := 41) C0.1 C0.2.1 dX5_copyFrom_41 rfl (lv_at hl 1 rfl) ?_
  refine x_get (pc := 42) (v := .int (u5.1 v1 5)) C0 hK hw (jy_T hv1) (ly_T hv1) rfl inX5 5 (by decide) wf_X5_28 rfl rfl dX5_copyFrom_42 ?_
  obtain ⟨hz, hf⟩ := gd_e hf
  obtain ⟨u6, hu, hf⟩ := nm_f hf
  refine x_put (pc := 45) hI C0 hK hw (jy_T hv0) (ly_T hv0) rfl inX5 tyX5_ok nmX5 5 (by decide) wf_X5_28 rfl rfl rfl hu (isb_narrow hz) (isb_fits hz) dX5_copyFrom_45 (fun H locs hw => ?_)
  refine lv_aload_n (pc := 48) C0.1 C0.2.1 dX5_copyFrom_48 rfl (lv_at hl 0 rfl) ?_
  refine lv_aload_n (pc := 49) C0.1 C0.2.1 dX5_copyFrom_49 rfl (lv_at hl 1 rfl) ?_
  refine x_get (pc := 50) (v := .int (u6.1 v1 6)) C0 hK hw (jy_T hv1) (ly_T hv1) rfl inX5 6 (by decide) wf_X5_32 rfl rfl dX5_copyFrom_50 ?_
  obtain ⟨hz, hf⟩ := gd_e hf
  obtain ⟨u7, hu, hf⟩ := nm_f hf
  refine x_put (pc := 53) hI C0 hK hw (jy_T hv0) (ly_T hv0) rfl inX5 tyX5_ok nmX5 6 (by decide) wf_X5_32 rfl rfl rfl hu (isb_narrow hz) (isb_fits hz) dX5_copyFrom_53 (fun H locs hw => ?_)
  refine lv_aload_n (pc := 56) C0.1 C0.2.1 dX5_copyFrom_56 rfl (lv_at hl 0 rfl) ?_
  refine lv_aload_n (pc := 57) C0.1 C0.2.1 dX5_copyFrom_57 rfl (lv_at hl 1 rfl) ?_
  refine x_get (pc := 58) (v := .int (u7.1 v1 7)) C0 hK hw (jy_T hv1) (ly_T hv1) rfl inX5 7 (by decide) wf_X5_35 rfl rfl dX5_copyFrom_58 ?_
  obtain ⟨u8, hu, hf⟩ := nm_f hf
  refine x_put (pc := 61) hI C0 hK hw (jy_T hv0) (ly_T hv0) rfl inX5 tyX5_ok nmX5 7 (by decide) wf_X5_35 rfl rfl rfl hu rfl rfl dX5_copyFrom_61 (fun H locs hw => ?_)
  refine lv_aload_n (pc := 64) C0.1 C0.2.1 dX5_copyFrom_64 rfl (lv_at hl 0 rfl) ?_
  refine lv_aload_n (pc := 65) C0.1 C0.2.1 dX5_copyFrom_65 rfl (lv_at hl 1 rfl) ?_
  refine x_get (pc := 66) (v := .int (u8.1 v1 8)) C0 hK hw (jy_T hv1) (ly_T hv1) rfl inX5 8 (by decide) wf_X5_38 rfl rfl dX5_copyFrom_66 ?_
  obtain ⟨u9, hu, hf⟩ := nm_f hf
  refine x_put (pc := 69) hI C0 hK hw (jy_T hv0) (ly_T hv0) rfl inX5 tyX5_ok nmX5 8 (by decide) wf_X5_38 rfl rfl rfl hu rfl rfl dX5_copyFrom_69 (fun H locs hw => ?_)
  refine lv_aload_n (pc := 72) C0.1 C0.2.1 dX5_copyFrom_72 rfl (lv_at hl 0 rfl) ?_
  refine lv_aload_n (pc := 73) C0.1 C0.2.1 dX5_copyFrom_73 rfl (lv_at hl 1 rfl) ?_
  refine x_get (pc := 74) (v := .int (u9.1 v1 9)) C0 hK hw (jy_T hv1) (ly_T hv1) rfl inX5 9 (by decide) wf_X5_41 rfl rfl dX5_copyFrom_74 ?_
  obtain ⟨u10, hu, hf⟩ := nm_f hf
  refine x_put (pc := 77) hI C0 hK hw (jy_T hv0) (ly_T hv0) rfl inX5 tyX5_ok nmX5 9 (by decide) wf_X5_41 rfl rfl rfl hu rfl rfl dX5_copyFrom_77 (fun H locs hw => ?_)
  refine lv_aload_n (pc := 80) C0.1 C0.2.1 dX5_copyFrom_80 rfl (lv_at hl 0 rfl) ?_
  refine lv_aload_n (pc := 81) C0.1 C0.2.1 dX5_copyFrom_81 rfl (lv_at hl 1 rfl) ?_
  refine x_get (pc := 82) (v := .int (u10.1 v1 10)) C0 hK hw (jy_T hv1) (ly_T hv1) rfl inX5 10 (by decide) wf_X5_44 rfl rfl dX5_copyFrom_82 ?_
  obtain ⟨u11, hu, hf⟩ := nm_f hf
  refine x_put (pc := 85) hI C0 hK hw (jy_T hv0) (ly_T hv0) rfl inX5 tyX5_ok nmX5 10 (by decide) wf_X5_44 rfl rfl rfl hu rfl rfl dX5_copyFrom_85 (fun H locs hw => ?_)
  refine lv_aload_n (pc := 88) C0.1 C0.2.1 dX5_copyFrom_88 rfl (lv_at hl 0 rfl) ?_
  refine lv_aload_n (pc := 89) C0.1 C0.2.1 dX5_copyFrom_89 rfl (lv_at hl 1 rfl) ?_
  refine x_get (pc := 90) (v := .int (u11.1 v1 11)) C0 hK hw (jy_T hv1) (ly_T hv1) rfl inX5 11 (by decide) wf_X5_47 rfl rfl dX5_copyFrom_90 ?_
  obtain ⟨u12, hu, hf⟩ := nm_f hf
  refine x_put (pc := 93) hI C0 hK hw (jy_T hv0) (ly_T hv0) rfl inX5 tyX5_ok nmX5 11 (by decide) wf_X5_47 rfl rfl rfl hu rfl rfl dX5_copyFrom_93 (fun H locs hw => ?_)
  refine lv_aload_n (pc := 96) C0.1 C0.2.1 dX5_copyFrom_96 rfl (lv_at hl 0 rfl) ?_
  refine lv_aload_n (pc := 97) C0.1 C0.2.1 dX5_copyFrom_97 rfl (lv_at hl 1 rfl) ?_
  refine x_get (pc := 98) (v := .int (u12.1 v1 12)) C0 hK hw (jy_T hv1) (ly_T hv1) rfl inX5 12 (by decide) wf_X5_50 rfl rfl dX5_copyFrom_98 ?_
  obtain ⟨u13, hu, hf⟩ := nm_f hf
  refine x_put (pc := 101) hI C0 hK hw (jy_T hv0) (ly_T hv0) rfl inX5 tyX5_ok nmX5 12 (by decide) wf_X5_50 rfl rfl rfl hu rfl rfl dX5_copyFrom_101 (fun H locs hw => ?_)
  refine lv_aload_n (pc := 104) C0.1 C0.2.1 dX5_copyFrom_104 rfl (lv_at hl 0 rfl) ?_
  refine lv_aload_n (pc := 105) C0.1 C0.2.1 dX5_copyFrom_105 rfl (lv_at hl 1 rfl) ?_
  refine x_get (pc := 106) (v := .int (u13.1 v1 13)) C0 hK hw (jy_T hv1) (ly_T hv1) rfl inX5 13 (by decide) wf_X5_53 rfl rfl dX5_copyFrom_106 ?_
  obtain ⟨u14, hu, hf⟩ := nm_f hf
  refine x_put (pc := 109) hI C0 hK hw (jy_T hv0) (ly_T hv0) rfl inX5 tyX5_ok nmX5 13 (by decide) wf_X5_53 rfl rfl rfl hu rfl rfl dX5_copyFrom_109 (fun H locs hw => ?_)
  exact x_vret (pc := 112) C0 hK hk hr hw (Option.some.inj hf) dX5_copyFrom_112
def wX5_leave : List Cond := .code yX5_leave cX5_leave 1 none :: lwT
def rX5_leave : Room := { frames := 0, cells := 0, slots := 0, locals := 0 }
set_option maxRecDepth 100000 in
set_option maxHeartbeats 4000000 in
theorem kX5_leave (l : Launch) (D : va_G) (y : Nat → ClassId) (ad : Nat → Nat) (hI : XI ad 168) (v0 : Nat) (hv0 : v0 < 132) (u : S) {o : S} (hf : fX5_leave v0 u = some o) : Met l yX5_leave wX5_leave rX5_leave (va_Pc [.ref (ad v0)] (XW D y ad LX 168 u)) (XQv D y ad LX 168 o) 0 0 (XA ad 168) := by
  refine x_met (bytes := cX5_leave) (maxL := 1) (ret := none) (own := RX5) (by decide) rfl rfl (Nat.le_of_ble_eq_true rfl) (fun p e s m below meth c ls C0 hK hk hr hw hl => ?_)
  have hl : lv_has ls 1 [(0, .ref (ad v0))] := hl
  unfold fX5_leave at hf
  refine lv_aload_n (pc := 0) C0.1 C0.2.1 dX5_leave_0 rfl (lv_at hl 0 rfl) ?_
  refine lv_iconst (v := 0) (pc := 1) C0.1 C0.2.1 dX5_leave_1 (by decide) ?_
  obtain ⟨u1, hu, hf⟩ := nm_f hf
  refine x_put (pc := 2) hI C0 hK hw (jy_T hv0) (ly_T hv0) rfl inX5 tyX5_ok nmX5 5 (by decide) wf_X5_28 rfl rfl rfl hu (isb_narrow rfl) (isb_fits rfl) dX5_leave_2 (fun H locs hw => ?_)
  refine lv_aload_n (pc := 5) C0.1 C0.2.1 dX5_leave_5 rfl (lv_at hl 0 rfl) ?_
  refine lv_iconst (v := 0) (pc := 6) C0.1 C0.2.1 dX5_leave_6 (by decide) ?_
  obtain ⟨u2, hu, hf⟩ := nm_f hf
  refine x_put (pc := 7) hI C0 hK hw (jy_T hv0) (ly_T hv0) rfl inX5 tyX5_ok nmX5 6 (by decide) wf_X5_32 rfl rfl rfl hu (isb_narrow rfl) (isb_fits rfl) dX5_leave_7 (fun H locs hw => ?_)
  exact x_vret (pc := 10) C0 hK hk hr hw (Option.some.inj hf) dX5_leave_10
def wX5_alongX : List Cond := .code yX5_alongX cX5_alongX 2 (some .int) :: lwT
def rX5_alongX : Room := { frames := 0, cells := 0, slots := 0, locals := 0 }
set_option maxRecDepth 100000 in
set_option maxHeartbeats 4000000 in
theorem kX5_alongX (l : Launch) (D : va_G) (y : Nat → ClassId) (ad : Nat → Nat) (hI : XI ad 168) (v0 : Nat) (hv0 : v0 < 132) (v1 : Int32) (u : S) {o : Int32} (hf : fX5_alongX v0 v1 u = some o) : Met l yX5_alongX wX5_alongX rX5_alongX (va_Pc [.ref (ad v0), .int v1] (XW D y ad LX 168 u)) (XQi D y ad LX 168 (o, u)) 0 0 (XA ad 168) := by
  refine x_met (bytes := cX5_alongX) (maxL := 2) (ret := (some .int)) (own := RX5) (by decide) rfl rfl (Nat.le_of_ble_eq_true rfl) (fun p e s m below meth c ls C0 hK hk hr hw hl => ?_)
  have hl : lv_has ls 2 [(0, .ref (ad v0)), (1, .int v1)] := hl
  unfold fX5_alongX at hf
  refine lv_iload_n (pc := 0) C0.1 C0.2.1 dX5_alongX_0 rfl (lv_at hl 1 rfl) ?_
  refine lv_if_eq (tgt := 11) (pc := 1) C0.1 C0.2.1 dX5_alongX_1 (by decide) (fun hc => ?_) (fun hc => ?_)
  · have hf := if_t hf hc
    refine lv_aload_n (pc := 11) C0.1 C0.2.1 dX5_alongX_11 rfl (lv_at hl 0 rfl) ?_
    refine x_get (pc := 12) (v := .int (u.1 v0 0)) C0 hK hw (jy_T hv0) (ly_T hv0) rfl inX5 0 (by decide) wf_X5_7 rfl rfl dX5_alongX_12 ?_
    exact x_iret (pc := 15) C0 hK hk hr hw (congrArg (fun z => (z, u)) (Option.some.inj hf)) dX5_alongX_15
  · have hf := if_f hf hc
    refine lv_aload_n (pc := 4) C0.1 C0.2.1 dX5_alongX_4 rfl (lv_at hl 0 rfl) ?_
    refine x_get (pc := 5) (v := .int (u.1 v0 1)) C0 hK hw (jy_T hv0) (ly_T hv0) rfl inX5 1 (by decide) wf_X5_13 rfl rfl dX5_alongX_5 ?_
    refine lv_goto (tgt := 15) (pc := 8) C0.1 C0.2.1 dX5_alongX_8 (by decide) ?_
    exact x_iret (pc := 15) C0 hK hk hr hw (congrArg (fun z => (z, u)) (Option.some.inj hf)) dX5_alongX_15
def wX5_alongY : List Cond := .code yX5_alongY cX5_alongY 2 (some .int) :: lwT
def rX5_alongY : Room := { frames := 0, cells := 0, slots := 0, locals := 0 }
set_option maxRecDepth 100000 in
set_option maxHeartbeats 4000000 in
theorem kX5_alongY (l : Launch) (D : va_G) (y : Nat → ClassId) (ad : Nat → Nat) (hI : XI ad 168) (v0 : Nat) (hv0 : v0 < 132) (v1 : Int32) (u : S) {o : Int32} (hf : fX5_alongY v0 v1 u = some o) : Met l yX5_alongY wX5_alongY rX5_alongY (va_Pc [.ref (ad v0), .int v1] (XW D y ad LX 168 u)) (XQi D y ad LX 168 (o, u)) 0 0 (XA ad 168) := by
  refine x_met (bytes := cX5_alongY) (maxL := 2) (ret := (some .int)) (own := RX5) (by decide) rfl rfl (Nat.le_of_ble_eq_true rfl) (fun p e s m below meth c ls C0 hK hk hr hw hl => ?_)
  have hl : lv_has ls 2 [(0, .ref (ad v0)), (1, .int v1)] := hl
  unfold fX5_alongY at hf
  refine lv_iload_n (pc := 0) C0.1 C0.2.1 dX5_alongY_0 rfl (lv_at hl 1 rfl) ?_
  refine lv_if_eq (tgt := 11) (pc := 1) C0.1 C0.2.1 dX5_alongY_1 (by decide) (fun hc => ?_) (fun hc => ?_)
  · have hf := if_t hf hc
    refine lv_aload_n (pc := 11) C0.1 C0.2.1 dX5_alongY_11 rfl (lv_at hl 0 rfl) ?_
    refine x_get (pc := 12) (v := .int (u.1 v0 1)) C0 hK hw (jy_T hv0) (ly_T hv0) rfl inX5 1 (by decide) wf_X5_13 rfl rfl dX5_alongY_12 ?_
    exact x_iret (pc := 15) C0 hK hk hr hw (congrArg (fun z => (z, u)) (Option.some.inj hf)) dX5_alongY_15
  · have hf := if_f hf hc
    refine lv_aload_n (pc := 4) C0.1 C0.2.1 dX5_alongY_4 rfl (lv_at hl 0 rfl) ?_
    refine x_get (pc := 5) (v := .int (u.1 v0 0)) C0 hK hw (jy_T hv0) (ly_T hv0) rfl inX5 0 (by decide) wf_X5_7 rfl rfl dX5_alongY_5 ?_
    refine lv_goto (tgt := 15) (pc := 8) C0.1 C0.2.1 dX5_alongY_8 (by decide) ?_
    exact x_iret (pc := 15) C0 hK hk hr hw (congrArg (fun z => (z, u)) (Option.some.inj hf)) dX5_alongY_15
def wX5_tall : List Cond := .code yX5_tall cX5_tall 1 (some .int) :: lwT
def rX5_tall : Room := { frames := 0, cells := 0, slots := 0, locals := 0 }
set_option maxRecDepth 100000 in
set_option maxHeartbeats 4000000 in
theorem kX5_tall (l : Launch) (D : va_G) (y : Nat → ClassId) (ad : Nat → Nat) (hI : XI ad 168) (v0 : Nat) (hv0 : v0 < 132) (u : S) {o : Int32} (hf : fX5_tall v0 u = some o) : Met l yX5_tall wX5_tall rX5_tall (va_Pc [.ref (ad v0)] (XW D y ad LX 168 u)) (XQi D y ad LX 168 (o, u)) 0 0 (XA ad 168) := by
  refine x_met (bytes := cX5_tall) (maxL := 1) (ret := (some .int)) (own := RX5) (by decide) rfl rfl (Nat.le_of_ble_eq_true rfl) (fun p e s m below meth c ls C0 hK hk hr hw hl => ?_)
  have hl : lv_has ls 1 [(0, .ref (ad v0))] := hl
  unfold fX5_tall at hf
  refine lv_aload_n (pc := 0) C0.1 C0.2.1 dX5_tall_0 rfl (lv_at hl 0 rfl) ?_
  refine x_get (pc := 1) (v := .int (u.1 v0 2)) C0 hK hw (jy_T hv0) (ly_T hv0) rfl inX5 2 (by decide) wf_X5_16 rfl rfl dX5_tall_1 ?_
  refine lv_aload_n (pc := 4) C0.1 C0.2.1 dX5_tall_4 rfl (lv_at hl 0 rfl) ?_
  refine x_get (pc := 5) (v := .int (u.1 v0 4)) C0 hK hw (jy_T hv0) (ly_T hv0) rfl inX5 4 (by decide) wf_X5_22 rfl rfl dX5_tall_5 ?_
  refine lv_iadd (pc := 8) C0.1 C0.2.1 dX5_tall_8 ?_
  exact x_iret (pc := 9) C0 hK hk hr hw (congrArg (fun z => (z, u)) (Option.some.inj hf)) dX5_tall_9
def wX5_covers : List Cond := .code yX5_covers cX5_covers 3 (some .boolean) :: lwT
def rX5_covers : Room := { frames := 0, cells := 0, slots := 0, locals := 0 }
set_option maxRecDepth 100000 in
set_option maxHeartbeats 4000000 in
theorem kX5_covers (l : Launch) (D : va_G) (y : Nat → ClassId) (ad : Nat → Nat) (hI : XI ad 168) (v0 : Nat) (hv0 : v0 < 132) (v1 : Int32) (v2 : Int32) (u : S) {o : Int32} (hf : fX5_covers v0 v1 v2 u = some o) : Met l yX5_covers wX5_covers rX5_covers (va_Pc [.ref (ad v0), .int v1, .int v2] (XW D y ad LX 168 u)) (XQi D y ad LX 168 (o, u)) 0 0 (XA ad 168) := by
  refine x_met (bytes := cX5_covers) (maxL := 3) (ret := (some .boolean)) (own := RX5) (by decide) rfl rfl (Nat.le_of_ble_eq_true rfl) (fun p e s m below meth c ls C0 hK hk hr hw hl => ?_)
  have hl : lv_has ls 3 [(0, .ref (ad v0)), (1, .int v1), (2, .int v2)] := hl
  unfold fX5_covers at hf
  refine lv_aload_n (pc := 0) C0.1 C0.2.1 dX5_covers_0 rfl (lv_at hl 0 rfl) ?_
  refine x_get (pc := 1) (v := .int (u.1 v0 5)) C0 hK hw (jy_T hv0) (ly_T hv0) rfl inX5 5 (by decide) wf_X5_28 rfl rfl dX5_covers_1 ?_
  refine lv_if_eq (tgt := 43) (pc := 4) C0.1 C0.2.1 dX5_covers_4 (by decide) (fun hc => ?_) (fun hc => ?_)
  · have hf := if_t hf hc
    refine lv_iconst (v := 0) (pc := 43) C0.1 C0.2.1 dX5_covers_43 (by decide) ?_
    exact x_zret (pc := 44) C0 hK hk hr hw rfl (congrArg (fun z => (z, u)) (Option.some.inj hf)) dX5_covers_44
  · have hf := if_f hf hc
    refine lv_iload_n (pc := 7) C0.1 C0.2.1 dX5_covers_7 rfl (lv_at hl 1 rfl) ?_
    refine lv_aload_n (pc := 8) C0.1 C0.2.1 dX5_covers_8 rfl (lv_at hl 0 rfl) ?_
    refine x_get (pc := 9) (v := .int (u.1 v0 7)) C0 hK hw (jy_T hv0) (ly_T hv0) rfl inX5 7 (by decide) wf_X5_35 rfl rfl dX5_covers_9 ?_
    refine lv_icmp_lt (tgt := 43) (pc := 12) C0.1 C0.2.1 dX5_covers_12 (by decide) (fun hc => ?_) (fun hc => ?_)
    · have hf := if_t hf hc
      refine lv_iconst (v := 0) (pc := 43) C0.1 C0.2.1 dX5_covers_43 (by decide) ?_
      exact x_zret (pc := 44) C0 hK hk hr hw rfl (congrArg (fun z => (z, u)) (Option.some.inj hf)) dX5_covers_44
    · have hf := if_f hf hc
      refine lv_iload_n (pc := 15) C0.1 C0.2.1 dX5_covers_15 rfl (lv_at hl 1 rfl) ?_
      refine lv_aload_n (pc := 16) C0.1 C0.2.1 dX5_covers_16 rfl (lv_at hl 0 rfl) ?_
      refine x_get (pc := 17) (v := .int (u.1 v0 9)) C0 hK hw (jy_T hv0) (ly_T hv0) rfl inX5 9 (by decide) wf_X5_41 rfl rfl dX5_covers_17 ?_
      refine lv_icmp_ge (tgt := 43) (pc := 20) C0.1 C0.2.1 dX5_covers_20 (by decide) (fun hc => ?_) (fun hc => ?_)
      · have hf := if_t hf hc
        refine lv_iconst (v := 0) (pc := 43) C0.1 C0.2.1 dX5_covers_43 (by decide) ?_
        exact x_zret (pc := 44) C0 hK hk hr hw rfl (congrArg (fun z => (z, u)) (Option.some.inj hf)) dX5_covers_44
      · have hf := if_f hf hc
        refine lv_iload_n (pc := 23) C0.1 C0.2.1 dX5_covers_23 rfl (lv_at hl 2 rfl) ?_
        refine lv_aload_n (pc := 24) C0.1 C0.2.1 dX5_covers_24 rfl (lv_at hl 0 rfl) ?_
        refine x_get (pc := 25) (v := .int (u.1 v0 8)) C0 hK hw (jy_T hv0) (ly_T hv0) rfl inX5 8 (by decide) wf_X5_38 rfl rfl dX5_covers_25 ?_
        refine lv_icmp_lt (tgt := 43) (pc := 28) C0.1 C0.2.1 dX5_covers_28 (by decide) (fun hc => ?_) (fun hc => ?_)
        · have hf := if_t hf hc
          refine lv_iconst (v := 0) (pc := 43) C0.1 C0.2.1 dX5_covers_43 (by decide) ?_
          exact x_zret (pc := 44) C0 hK hk hr hw rfl (congrArg (fun z => (z, u)) (Option.some.inj hf)) dX5_covers_44
        · have hf := if_f hf hc
          refine lv_iload_n (pc := 31) C0.1 C0.2.1 dX5_covers_31 rfl (lv_at hl 2 rfl) ?_
          refine lv_aload_n (pc := 32) C0.1 C0.2.1 dX5_covers_32 rfl (lv_at hl 0 rfl) ?_
          refine x_get (pc := 33) (v := .int (u.1 v0 10)) C0 hK hw (jy_T hv0) (ly_T hv0) rfl inX5 10 (by decide) wf_X5_44 rfl rfl dX5_covers_33 ?_
          refine lv_icmp_ge (tgt := 43) (pc := 36) C0.1 C0.2.1 dX5_covers_36 (by decide) (fun hc => ?_) (fun hc => ?_)
          · have hf := if_t hf hc
            refine lv_iconst (v := 0) (pc := 43) C0.1 C0.2.1 dX5_covers_43 (by decide) ?_
            exact x_zret (pc := 44) C0 hK hk hr hw rfl (congrArg (fun z => (z, u)) (Option.some.inj hf)) dX5_covers_44
          · have hf := if_f hf hc
            refine lv_iconst (v := 1) (pc := 39) C0.1 C0.2.1 dX5_covers_39 (by decide) ?_
            refine lv_goto (tgt := 44) (pc := 40) C0.1 C0.2.1 dX5_covers_40 (by decide) ?_
            exact x_zret (pc := 44) C0 hK hk hr hw rfl (congrArg (fun z => (z, u)) (Option.some.inj hf)) dX5_covers_44
def wX5_liesOn : List Cond := .code yX5_liesOn cX5_liesOn 2 (some .boolean) :: lwT
def rX5_liesOn : Room := { frames := 0, cells := 0, slots := 0, locals := 0 }
set_option maxRecDepth 100000 in
set_option maxHeartbeats 4000000 in
theorem kX5_liesOn (l : Launch) (D : va_G) (y : Nat → ClassId) (ad : Nat → Nat) (hI : XI ad 168) (v0 : Nat) (hv0 : v0 < 132) (v1 : Nat) (hv1 : v1 < 132) (u : S) {o : Int32} (hf : fX5_liesOn v0 v1 u = some o) : Met l yX5_liesOn wX5_liesOn rX5_liesOn (va_Pc [.ref (ad v0), .ref (ad v1)] (XW D y ad LX 168 u)) (XQi D y ad LX 168 (o, u)) 0 0 (XA ad 168) := by
  refine x_met (bytes := cX5_liesOn) (maxL := 2) (ret := (some .boolean)) (own := RX5) (by decide) rfl rfl (Nat.le_of_ble_eq_true rfl) (fun p e s m below meth c ls C0 hK hk hr hw hl => ?_)
  have hl : lv_has ls 2 [(0, .ref (ad v0)), (1, .ref (ad v1))] := hl
  unfold fX5_liesOn at hf
  refine lv_aload_n (pc := 0) C0.1 C0.2.1 dX5_liesOn_0 rfl (lv_at hl 0 rfl) ?_
  refine x_get (pc := 1) (v := .int (u.1 v0 5)) C0 hK hw (jy_T hv0) (ly_T hv0) rfl inX5 5 (by decide) wf_X5_28 rfl rfl dX5_liesOn_1 ?_
  refine lv_if_eq (tgt := 73) (pc := 4) C0.1 C0.2.1 dX5_liesOn_4 (by decide) (fun hc => ?_) (fun hc => ?_)
  · have hf := if_t hf hc
    refine lv_iconst (v := 0) (pc := 73) C0.1 C0.2.1 dX5_liesOn_73 (by decide) ?_
    exact x_zret (pc := 74) C0 hK hk hr hw rfl (congrArg (fun z => (z, u)) (Option.some.inj hf)) dX5_liesOn_74
  · have hf := if_f hf hc
    refine lv_aload_n (pc := 7) C0.1 C0.2.1 dX5_liesOn_7 rfl (lv_at hl 1 rfl) ?_
    refine x_get (pc := 8) (v := .int (u.1 v1 5)) C0 hK hw (jy_T hv1) (ly_T hv1) rfl inX5 5 (by decide) wf_X5_28 rfl rfl dX5_liesOn_8 ?_
    refine lv_if_eq (tgt := 73) (pc := 11) C0.1 C0.2.1 dX5_liesOn_11 (by decide) (fun hc => ?_) (fun hc => ?_)
    · have hf := if_t hf hc
      refine lv_iconst (v := 0) (pc := 73) C0.1 C0.2.1 dX5_liesOn_73 (by decide) ?_
      exact x_zret (pc := 74) C0 hK hk hr hw rfl (congrArg (fun z => (z, u)) (Option.some.inj hf)) dX5_liesOn_74
    · have hf := if_f hf hc
      refine lv_aload_n (pc := 14) C0.1 C0.2.1 dX5_liesOn_14 rfl (lv_at hl 0 rfl) ?_
      refine x_get (pc := 15) (v := .int (u.1 v0 11)) C0 hK hw (jy_T hv0) (ly_T hv0) rfl inX5 11 (by decide) wf_X5_47 rfl rfl dX5_liesOn_15 ?_
      refine lv_aload_n (pc := 18) C0.1 C0.2.1 dX5_liesOn_18 rfl (lv_at hl 1 rfl) ?_
      refine x_get (pc := 19) (v := .int (u.1 v1 12)) C0 hK hw (jy_T hv1) (ly_T hv1) rfl inX5 12 (by decide) wf_X5_50 rfl rfl dX5_liesOn_19 ?_
      refine lv_icmp_lt (tgt := 73) (pc := 22) C0.1 C0.2.1 dX5_liesOn_22 (by decide) (fun hc => ?_) (fun hc => ?_)
      · have hf := if_t hf hc
        refine lv_iconst (v := 0) (pc := 73) C0.1 C0.2.1 dX5_liesOn_73 (by decide) ?_
        exact x_zret (pc := 74) C0 hK hk hr hw rfl (congrArg (fun z => (z, u)) (Option.some.inj hf)) dX5_liesOn_74
      · have hf := if_f hf hc
        refine lv_aload_n (pc := 25) C0.1 C0.2.1 dX5_liesOn_25 rfl (lv_at hl 0 rfl) ?_
        refine x_get (pc := 26) (v := .int (u.1 v0 7)) C0 hK hw (jy_T hv0) (ly_T hv0) rfl inX5 7 (by decide) wf_X5_35 rfl rfl dX5_liesOn_26 ?_
        refine lv_aload_n (pc := 29) C0.1 C0.2.1 dX5_liesOn_29 rfl (lv_at hl 1 rfl) ?_
        refine x_get (pc := 30) (v := .int (u.1 v1 9)) C0 hK hw (jy_T hv1) (ly_T hv1) rfl inX5 9 (by decide) wf_X5_41 rfl rfl dX5_liesOn_30 ?_
        refine lv_icmp_ge (tgt := 73) (pc := 33) C0.1 C0.2.1 dX5_liesOn_33 (by decide) (fun hc => ?_) (fun hc => ?_)
        · have hf := if_t hf hc
          refine lv_iconst (v := 0) (pc := 73) C0.1 C0.2.1 dX5_liesOn_73 (by decide) ?_
          exact x_zret (pc := 74) C0 hK hk hr hw rfl (congrArg (fun z => (z, u)) (Option.some.inj hf)) dX5_liesOn_74
        · have hf := if_f hf hc
          refine lv_aload_n (pc := 36) C0.1 C0.2.1 dX5_liesOn_36 rfl (lv_at hl 1 rfl) ?_
          refine x_get (pc := 37) (v := .int (u.1 v1 7)) C0 hK hw (jy_T hv1) (ly_T hv1) rfl inX5 7 (by decide) wf_X5_35 rfl rfl dX5_liesOn_37 ?_
          refine lv_aload_n (pc := 40) C0.1 C0.2.1 dX5_liesOn_40 rfl (lv_at hl 0 rfl) ?_
          refine x_get (pc := 41) (v := .int (u.1 v0 9)) C0 hK hw (jy_T hv0) (ly_T hv0) rfl inX5 9 (by decide) wf_X5_41 rfl rfl dX5_liesOn_41 ?_
          refine lv_icmp_ge (tgt := 73) (pc := 44) C0.1 C0.2.1 dX5_liesOn_44 (by decide) (fun hc => ?_) (fun hc => ?_)
          · have hf := if_t hf hc
            refine lv_iconst (v := 0) (pc := 73) C0.1 C0.2.1 dX5_liesOn_73 (by decide) ?_
            exact x_zret (pc := 74) C0 hK hk hr hw rfl (congrArg (fun z => (z, u)) (Option.some.inj hf)) dX5_liesOn_74
          · have hf := if_f hf hc
            refine lv_aload_n (pc := 47) C0.1 C0.2.1 dX5_liesOn_47 rfl (lv_at hl 0 rfl) ?_
            refine x_get (pc := 48) (v := .int (u.1 v0 8)) C0 hK hw (jy_T hv0) (ly_T hv0) rfl inX5 8 (by decide) wf_X5_38 rfl rfl dX5_liesOn_48 ?_
            refine lv_aload_n (pc := 51) C0.1 C0.2.1 dX5_liesOn_51 rfl (lv_at hl 1 rfl) ?_
            refine x_get (pc := 52) (v := .int (u.1 v1 10)) C0 hK hw (jy_T hv1) (ly_T hv1) rfl inX5 10 (by decide) wf_X5_44 rfl rfl dX5_liesOn_52 ?_
            refine lv_icmp_ge (tgt := 73) (pc := 55) C0.1 C0.2.1 dX5_liesOn_55 (by decide) (fun hc => ?_) (fun hc => ?_)
            · have hf := if_t hf hc
              refine lv_iconst (v := 0) (pc := 73) C0.1 C0.2.1 dX5_liesOn_73 (by decide) ?_
              exact x_zret (pc := 74) C0 hK hk hr hw rfl (congrArg (fun z => (z, u)) (Option.some.inj hf)) dX5_liesOn_74
            · have hf := if_f hf hc
              refine lv_aload_n (pc := 58) C0.1 C0.2.1 dX5_liesOn_58 rfl (lv_at hl 1 rfl) ?_
              refine x_get (pc := 59) (v := .int (u.1 v1 8)) C0 hK hw (jy_T hv1) (ly_T hv1) rfl inX5 8 (by decide) wf_X5_38 rfl rfl dX5_liesOn_59 ?_
              refine lv_aload_n (pc := 62) C0.1 C0.2.1 dX5_liesOn_62 rfl (lv_at hl 0 rfl) ?_
              refine x_get (pc := 63) (v := .int (u.1 v0 10)) C0 hK hw (jy_T hv0) (ly_T hv0) rfl inX5 10 (by decide) wf_X5_44 rfl rfl dX5_liesOn_63 ?_
              refine lv_icmp_ge (tgt := 73) (pc := 66) C0.1 C0.2.1 dX5_liesOn_66 (by decide) (fun hc => ?_) (fun hc => ?_)
              · have hf := if_t hf hc
                refine lv_iconst (v := 0) (pc := 73) C0.1 C0.2.1 dX5_liesOn_73 (by decide) ?_
                exact x_zret (pc := 74) C0 hK hk hr hw rfl (congrArg (fun z => (z, u)) (Option.some.inj hf)) dX5_liesOn_74
              · have hf := if_f hf hc
                refine lv_iconst (v := 1) (pc := 69) C0.1 C0.2.1 dX5_liesOn_69 (by decide) ?_
                refine lv_goto (tgt := 74) (pc := 70) C0.1 C0.2.1 dX5_liesOn_70 (by decide) ?_
                exact x_zret (pc := 74) C0 hK hk hr hw rfl (congrArg (fun z => (z, u)) (Option.some.inj hf)) dX5_liesOn_74
def wX5_area : List Cond := .code yX5_area cX5_area 1 (some .int) :: lwT
def rX5_area : Room := { frames := 0, cells := 0, slots := 0, locals := 0 }
set_option maxRecDepth 100000 in
set_option maxHeartbeats 4000000 in
theorem kX5_area (l : Launch) (D : va_G) (y : Nat → ClassId) (ad : Nat → Nat) (hI : XI ad 168) (v0 : Nat) (hv0 : v0 < 132) (u : S) {o : Int32} (hf : fX5_area v0 u = some o) : Met l yX5_area wX5_area rX5_area (va_Pc [.ref (ad v0)] (XW D y ad LX 168 u)) (XQi D y ad LX 168 (o, u)) 0 0 (XA ad 168) := by
  refine x_met (bytes := cX5_area) (maxL := 1) (ret := (some .int)) (own := RX5) (by decide) rfl rfl (Nat.le_of_ble_eq_true rfl) (fun p e s m below meth c ls C0 hK hk hr hw hl => ?_)
  have hl : lv_has ls 1 [(0, .ref (ad v0))] := hl
  unfold fX5_area at hf
  refine lv_aload_n (pc := 0) C0.1 C0.2.1 dX5_area_0 rfl (lv_at hl 0 rfl) ?_
  refine x_get (pc := 1) (v := .int (u.1 v0 0)) C0 hK hw (jy_T hv0) (ly_T hv0) rfl inX5 0 (by decide) wf_X5_7 rfl rfl dX5_area_1 ?_
  refine lv_aload_n (pc := 4) C0.1 C0.2.1 dX5_area_4 rfl (lv_at hl 0 rfl) ?_
  refine x_get (pc := 5) (v := .int (u.1 v0 1)) C0 hK hw (jy_T hv0) (ly_T hv0) rfl inX5 1 (by decide) wf_X5_13 rfl rfl dX5_area_5 ?_
  refine lv_imul (pc := 8) C0.1 C0.2.1 dX5_area_8 ?_
  exact x_iret (pc := 9) C0 hK hk hr hw (congrArg (fun z => (z, u)) (Option.some.inj hf)) dX5_area_9
def wX5_lie : List Cond := .code yX5_lie cX5_lie 6 none :: lwT
def rX5_lie : Room := { frames := 1, cells := 0, slots := 0, locals := 21 }
set_option maxRecDepth 100000 in
set_option maxHeartbeats 4000000 in
theorem kX5_lie (l : Launch) (D : va_G) (y : Nat → ClassId) (ad : Nat → Nat) (hI : XI ad 168) (v0 : Nat) (hv0 : v0 < 132) (v1 : Int32) (v2 : Int32) (v3 : Int32) (v4 : Int32) (v5 : Int32) (u : S) {o : S} (hf : fX5_lie v0 v1 v2 v3 v4 v5 u = some o) : Met l yX5_lie wX5_lie rX5_lie (va_Pc [.ref (ad v0), .int v1, .int v2, .int v3, .int v4, .int v5] (XW D y ad LX 168 u)) (XQv D y ad LX 168 o) 0 0 (XA ad 168) := by
  refine x_met (bytes := cX5_lie) (maxL := 6) (ret := none) (own := RX5) (by decide) rfl rfl (Nat.le_of_ble_eq_true rfl) (fun p e s m below meth c ls C0 hK hk hr hw hl => ?_)
  have hl : lv_has ls 6 [(0, .ref (ad v0)), (1, .int v1), (2, .int v2), (3, .int v3), (4, .int v4), (5, .int v5)] := hl
  unfold fX5_lie at hf
  refine lv_aload_n (pc := 0) C0.1 C0.2.1 dX5_lie_0 rfl (lv_at hl 0 rfl) ?_
  refine lv_iconst (v := 1) (pc := 1) C0.1 C0.2.1 dX5_lie_1 (by decide) ?_
  obtain ⟨u1, hu, hf⟩ := nm_f hf
  refine x_put (pc := 2) hI C0 hK hw (jy_T hv0) (ly_T hv0) rfl inX5 tyX5_ok nmX5 5 (by decide) wf_X5_28 rfl rfl rfl hu (isb_narrow rfl) (isb_fits rfl) dX5_lie_2 (fun H locs hw => ?_)
  refine lv_aload_n (pc := 5) C0.1 C0.2.1 dX5_lie_5 rfl (lv_at hl 0 rfl) ?_
  refine lv_iload_n (pc := 6) C0.1 C0.2.1 dX5_lie_6 rfl (lv_at hl 3 rfl) ?_
  obtain ⟨hz, hf⟩ := gd_e hf
  obtain ⟨u2, hu, hf⟩ := nm_f hf
  refine x_put (pc := 7) hI C0 hK hw (jy_T hv0) (ly_T hv0) rfl inX5 tyX5_ok nmX5 6 (by decide) wf_X5_32 rfl rfl rfl hu (isb_narrow hz) (isb_fits hz) dX5_lie_7 (fun H locs hw => ?_)
  refine lv_aload_n (pc := 10) C0.1 C0.2.1 dX5_lie_10 rfl (lv_at hl 0 rfl) ?_
  refine lv_iload_n (pc := 11) C0.1 C0.2.1 dX5_lie_11 rfl (lv_at hl 1 rfl) ?_
  obtain ⟨u3, hu, hf⟩ := nm_f hf
  refine x_put (pc := 12) hI C0 hK hw (jy_T hv0) (ly_T hv0) rfl inX5 tyX5_ok nmX5 7 (by decide) wf_X5_35 rfl rfl rfl hu rfl rfl dX5_lie_12 (fun H locs hw => ?_)
  refine lv_aload_n (pc := 15) C0.1 C0.2.1 dX5_lie_15 rfl (lv_at hl 0 rfl) ?_
  refine lv_iload_n (pc := 16) C0.1 C0.2.1 dX5_lie_16 rfl (lv_at hl 2 rfl) ?_
  obtain ⟨u4, hu, hf⟩ := nm_f hf
  refine x_put (pc := 17) hI C0 hK hw (jy_T hv0) (ly_T hv0) rfl inX5 tyX5_ok nmX5 8 (by decide) wf_X5_38 rfl rfl rfl hu rfl rfl dX5_lie_17 (fun H locs hw => ?_)
  refine lv_aload_n (pc := 20) C0.1 C0.2.1 dX5_lie_20 rfl (lv_at hl 0 rfl) ?_
  refine lv_iload_n (pc := 21) C0.1 C0.2.1 dX5_lie_21 rfl (lv_at hl 1 rfl) ?_
  refine lv_aload_n (pc := 22) C0.1 C0.2.1 dX5_lie_22 rfl (lv_at hl 0 rfl) ?_
  refine lv_iload_n (pc := 23) C0.1 C0.2.1 dX5_lie_23 rfl (lv_at hl 3 rfl) ?_
  obtain ⟨q5, hq5, hf⟩ := bd_e hf
  refine x_backp (pc := 24) hw (x_runV (pc := 24) (As := [.int v3]) (rest := [.int v1, .ref (ad v0)]) C0 hK hw hl.1 ⟨Nat.zero_le _, Nat.zero_le _⟩ (kX5_alongX l D y ad hI v0 hv0 v3 u4 hq5) (jy_T hv0) (ly_T hv0) rfl rfl wc_X5_alongX wm_X5_56 wi_X5_alongX ws_X5_alongX wn_X5 ⟨rfl, rfl⟩ hd_X5_alongX rfl ⟨Nat.le_of_ble_eq_true rfl, Nat.le_of_ble_eq_true rfl⟩ (Nat.le_of_ble_eq_true rfl) dX5_lie_24) (fun H locs hw => ?_)
  refine lv_iadd (pc := 27) C0.1 C0.2.1 dX5_lie_27 ?_
  obtain ⟨u6, hu, hf⟩ := nm_f hf
  refine x_put (pc := 28) hI C0 hK hw (jy_T hv0) (ly_T hv0) rfl inX5 tyX5_ok nmX5 9 (by decide) wf_X5_41 rfl rfl rfl hu rfl rfl dX5_lie_28 (fun H locs hw => ?_)
  refine lv_aload_n (pc := 31) C0.1 C0.2.1 dX5_lie_31 rfl (lv_at hl 0 rfl) ?_
  refine lv_iload_n (pc := 32) C0.1 C0.2.1 dX5_lie_32 rfl (lv_at hl 2 rfl) ?_
  refine lv_aload_n (pc := 33) C0.1 C0.2.1 dX5_lie_33 rfl (lv_at hl 0 rfl) ?_
  refine lv_iload_n (pc := 34) C0.1 C0.2.1 dX5_lie_34 rfl (lv_at hl 3 rfl) ?_
  obtain ⟨q7, hq7, hf⟩ := bd_e hf
  refine x_backp (pc := 35) hw (x_runV (pc := 35) (As := [.int v3]) (rest := [.int v2, .ref (ad v0)]) C0 hK hw hl.1 ⟨Nat.zero_le _, Nat.zero_le _⟩ (kX5_alongY l D y ad hI v0 hv0 v3 u6 hq7) (jy_T hv0) (ly_T hv0) rfl rfl wc_X5_alongY wm_X5_60 wi_X5_alongY ws_X5_alongY wn_X5 ⟨rfl, rfl⟩ hd_X5_alongY rfl ⟨Nat.le_of_ble_eq_true rfl, Nat.le_of_ble_eq_true rfl⟩ (Nat.le_of_ble_eq_true rfl) dX5_lie_35) (fun H locs hw => ?_)
  refine lv_iadd (pc := 38) C0.1 C0.2.1 dX5_lie_38 ?_
  obtain ⟨u8, hu, hf⟩ := nm_f hf
  refine x_put (pc := 39) hI C0 hK hw (jy_T hv0) (ly_T hv0) rfl inX5 tyX5_ok nmX5 10 (by decide) wf_X5_44 rfl rfl rfl hu rfl rfl dX5_lie_39 (fun H locs hw => ?_)
  refine lv_aload_n (pc := 42) C0.1 C0.2.1 dX5_lie_42 rfl (lv_at hl 0 rfl) ?_
  refine lv_iload (pc := 43) C0.1 C0.2.1 dX5_lie_43 (lv_at hl 4 rfl) ?_
  obtain ⟨u9, hu, hf⟩ := nm_f hf
  refine x_put (pc := 45) hI C0 hK hw (jy_T hv0) (ly_T hv0) rfl inX5 tyX5_ok nmX5 11 (by decide) wf_X5_47 rfl rfl rfl hu rfl rfl dX5_lie_45 (fun H locs hw => ?_)
  refine lv_aload_n (pc := 48) C0.1 C0.2.1 dX5_lie_48 rfl (lv_at hl 0 rfl) ?_
  refine lv_iload (pc := 49) C0.1 C0.2.1 dX5_lie_49 (lv_at hl 4 rfl) ?_
  refine lv_aload_n (pc := 51) C0.1 C0.2.1 dX5_lie_51 rfl (lv_at hl 0 rfl) ?_
  obtain ⟨q10, hq10, hf⟩ := bd_e hf
  refine x_backp (pc := 52) hw (x_runV (pc := 52) (As := []) (rest := [.int v4, .ref (ad v0)]) C0 hK hw hl.1 ⟨Nat.zero_le _, Nat.zero_le _⟩ (kX5_tall l D y ad hI v0 hv0 u9 hq10) (jy_T hv0) (ly_T hv0) rfl rfl wc_X5_tall wm_X5_63 wi_X5_tall ws_X5_tall wn_X5 ⟨rfl, rfl⟩ hd_X5_tall rfl ⟨Nat.le_of_ble_eq_true rfl, Nat.le_of_ble_eq_true rfl⟩ (Nat.le_of_ble_eq_true rfl) dX5_lie_52) (fun H locs hw => ?_)
  refine lv_iadd (pc := 55) C0.1 C0.2.1 dX5_lie_55 ?_
  obtain ⟨u11, hu, hf⟩ := nm_f hf
  refine x_put (pc := 56) hI C0 hK hw (jy_T hv0) (ly_T hv0) rfl inX5 tyX5_ok nmX5 12 (by decide) wf_X5_50 rfl rfl rfl hu rfl rfl dX5_lie_56 (fun H locs hw => ?_)
  refine lv_aload_n (pc := 59) C0.1 C0.2.1 dX5_lie_59 rfl (lv_at hl 0 rfl) ?_
  refine lv_iload (pc := 60) C0.1 C0.2.1 dX5_lie_60 (lv_at hl 5 rfl) ?_
  obtain ⟨u12, hu, hf⟩ := nm_f hf
  refine x_put (pc := 62) hI C0 hK hw (jy_T hv0) (ly_T hv0) rfl inX5 tyX5_ok nmX5 13 (by decide) wf_X5_53 rfl rfl rfl hu rfl rfl dX5_lie_62 (fun H locs hw => ?_)
  exact x_vret (pc := 65) C0 hK hk hr hw (Option.some.inj hf) dX5_lie_65
def wX5_become : List Cond := .code yX5_become cX5_become 5 none :: lwT
def rX5_become : Room := { frames := 1, cells := 0, slots := 0, locals := 20 }
set_option maxRecDepth 100000 in
set_option maxHeartbeats 4000000 in
theorem kX5_become (l : Launch) (D : va_G) (y : Nat → ClassId) (ad : Nat → Nat) (hI : XI ad 168) (v0 : Nat) (hv0 : v0 < 132) (v1 : Int32) (v2 : Int32) (v3 : Int32) (v4 : Int32) (u : S) {o : S} (hf : fX5_become v0 v1 v2 v3 v4 u = some o) : Met l yX5_become wX5_become rX5_become (va_Pc [.ref (ad v0), .int v1, .int v2, .int v3, .int v4] (XW D y ad LX 168 u)) (XQv D y ad LX 168 o) 0 0 (XA ad 168) := by
  refine x_met (bytes := cX5_become) (maxL := 5) (ret := none) (own := RX5) (by decide) rfl rfl (Nat.le_of_ble_eq_true rfl) (fun p e s m below meth c ls C0 hK hk hr hw hl => ?_)
  have hl : lv_has ls 5 [(0, .ref (ad v0)), (1, .int v1), (2, .int v2), (3, .int v3), (4, .int v4)] := hl
  unfold fX5_become at hf
  refine lv_aload_n (pc := 0) C0.1 C0.2.1 dX5_become_0 rfl (lv_at hl 0 rfl) ?_
  refine lv_iload_n (pc := 1) C0.1 C0.2.1 dX5_become_1 rfl (lv_at hl 1 rfl) ?_
  obtain ⟨u1, hu, hf⟩ := nm_f hf
  refine x_put (pc := 2) hI C0 hK hw (jy_T hv0) (ly_T hv0) rfl inX5 tyX5_ok nmX5 0 (by decide) wf_X5_7 rfl rfl rfl hu rfl rfl dX5_become_2 (fun H locs hw => ?_)
  refine lv_aload_n (pc := 5) C0.1 C0.2.1 dX5_become_5 rfl (lv_at hl 0 rfl) ?_
  refine lv_iload_n (pc := 6) C0.1 C0.2.1 dX5_become_6 rfl (lv_at hl 2 rfl) ?_
  obtain ⟨u2, hu, hf⟩ := nm_f hf
  refine x_put (pc := 7) hI C0 hK hw (jy_T hv0) (ly_T hv0) rfl inX5 tyX5_ok nmX5 1 (by decide) wf_X5_13 rfl rfl rfl hu rfl rfl dX5_become_7 (fun H locs hw => ?_)
  refine lv_aload_n (pc := 10) C0.1 C0.2.1 dX5_become_10 rfl (lv_at hl 0 rfl) ?_
  refine lv_iload_n (pc := 11) C0.1 C0.2.1 dX5_become_11 rfl (lv_at hl 3 rfl) ?_
  obtain ⟨u3, hu, hf⟩ := nm_f hf
  refine x_put (pc := 12) hI C0 hK hw (jy_T hv0) (ly_T hv0) rfl inX5 tyX5_ok nmX5 2 (by decide) wf_X5_16 rfl rfl rfl hu rfl rfl dX5_become_12 (fun H locs hw => ?_)
  refine lv_aload_n (pc := 15) C0.1 C0.2.1 dX5_become_15 rfl (lv_at hl 0 rfl) ?_
  refine lv_iload (pc := 16) C0.1 C0.2.1 dX5_become_16 (lv_at hl 4 rfl) ?_
  obtain ⟨u4, hu, hf⟩ := nm_f hf
  refine x_put (pc := 18) hI C0 hK hw (jy_T hv0) (ly_T hv0) rfl inX5 tyX5_ok nmX5 3 (by decide) wf_X5_19 rfl rfl rfl hu rfl rfl dX5_become_18 (fun H locs hw => ?_)
  refine lv_aload_n (pc := 21) C0.1 C0.2.1 dX5_become_21 rfl (lv_at hl 0 rfl) ?_
  refine lv_iconst (v := 0) (pc := 22) C0.1 C0.2.1 dX5_become_22 (by decide) ?_
  obtain ⟨u5, hu, hf⟩ := nm_f hf
  refine x_put (pc := 23) hI C0 hK hw (jy_T hv0) (ly_T hv0) rfl inX5 tyX5_ok nmX5 4 (by decide) wf_X5_22 rfl rfl rfl hu rfl rfl dX5_become_23 (fun H locs hw => ?_)
  refine lv_aload_n (pc := 26) C0.1 C0.2.1 dX5_become_26 rfl (lv_at hl 0 rfl) ?_
  obtain ⟨q6, hq6, hf⟩ := bd_e hf
  refine x_backv (pc := 27) hw (x_runV (pc := 27) (As := []) (rest := []) C0 hK hw hl.1 ⟨Nat.zero_le _, Nat.zero_le _⟩ (kX5_leave l D y ad hI v0 hv0 u5 hq6) (jy_T hv0) (ly_T hv0) rfl rfl wc_X5_leave wm_X5_25 wi_X5_leave ws_X5_leave wn_X5 ⟨rfl, rfl⟩ hd_X5_leave rfl ⟨Nat.le_of_ble_eq_true rfl, Nat.le_of_ble_eq_true rfl⟩ (Nat.le_of_ble_eq_true rfl) dX5_become_27) (fun H locs hw => ?_)
  exact x_vret (pc := 30) C0 hK hk hr hw (Option.some.inj hf) dX5_become_30
def wX5_property : List Cond := .code yX5_property cX5_property 2 (some .int) :: lwT
def rX5_property : Room := { frames := 0, cells := 0, slots := 0, locals := 0 }
set_option maxRecDepth 100000 in
set_option maxHeartbeats 4000000 in
theorem kX5_property (l : Launch) (D : va_G) (y : Nat → ClassId) (ad : Nat → Nat) (hI : XI ad 168) (v0 : Nat) (hv0 : v0 < 132) (v1 : Int32) (u : S) {o : Int32} (hf : fX5_property v0 v1 u = some o) : Met l yX5_property wX5_property rX5_property (va_Pc [.ref (ad v0), .int v1] (XW D y ad LX 168 u)) (XQi D y ad LX 168 (o, u)) 0 0 (XA ad 168) := by
  refine x_met (bytes := cX5_property) (maxL := 2) (ret := (some .int)) (own := RX5) (by decide) rfl rfl (Nat.le_of_ble_eq_true rfl) (fun p e s m below meth c ls C0 hK hk hr hw hl => ?_)
  have hl : lv_has ls 2 [(0, .ref (ad v0)), (1, .int v1)] := hl
  unfold fX5_property at hf
  refine lv_iload_n (pc := 0) C0.1 C0.2.1 dX5_property_0 rfl (lv_at hl 1 rfl) ?_
  by_cases hc0 : v1 = 0
  · have hf := if_t hf hc0
    refine lv_tableIn (tgt := 40) (pc := 1) C0.1 C0.2.1 dX5_property_1 (by rw [hc0]; decide) (by rw [hc0]; decide) (by rw [hc0]; rfl) (by decide) ?_
    refine lv_aload_n (pc := 40) C0.1 C0.2.1 dX5_property_40 rfl (lv_at hl 0 rfl) ?_
    refine x_get (pc := 41) (v := .int (u.1 v0 0)) C0 hK hw (jy_T hv0) (ly_T hv0) rfl inX5 0 (by decide) wf_X5_7 rfl rfl dX5_property_41 ?_
    exact x_iret (pc := 44) C0 hK hk hr hw (congrArg (fun z => (z, u)) (Option.some.inj hf)) dX5_property_44
  · have hf := if_f hf hc0
    by_cases hc1 : v1 = 1
    · have hf := if_t hf hc1
      refine lv_tableIn (tgt := 45) (pc := 1) C0.1 C0.2.1 dX5_property_1 (by rw [hc1]; decide) (by rw [hc1]; decide) (by rw [hc1]; rfl) (by decide) ?_
      refine lv_aload_n (pc := 45) C0.1 C0.2.1 dX5_property_45 rfl (lv_at hl 0 rfl) ?_
      refine x_get (pc := 46) (v := .int (u.1 v0 1)) C0 hK hw (jy_T hv0) (ly_T hv0) rfl inX5 1 (by decide) wf_X5_13 rfl rfl dX5_property_46 ?_
      exact x_iret (pc := 49) C0 hK hk hr hw (congrArg (fun z => (z, u)) (Option.some.inj hf)) dX5_property_49
    · have hf := if_f hf hc1
      by_cases hc2 : v1 = 2
      · have hf := if_t hf hc2
        refine lv_tableIn (tgt := 50) (pc := 1) C0.1 C0.2.1 dX5_property_1 (by rw [hc2]; decide) (by rw [hc2]; decide) (by rw [hc2]; rfl) (by decide) ?_
        refine lv_aload_n (pc := 50) C0.1 C0.2.1 dX5_property_50 rfl (lv_at hl 0 rfl) ?_
        refine x_get (pc := 51) (v := .int (u.1 v0 2)) C0 hK hw (jy_T hv0) (ly_T hv0) rfl inX5 2 (by decide) wf_X5_16 rfl rfl dX5_property_51 ?_
        exact x_iret (pc := 54) C0 hK hk hr hw (congrArg (fun z => (z, u)) (Option.some.inj hf)) dX5_property_54
      · have hf := if_f hf hc2
        by_cases hc3 : v1 = 3
        · have hf := if_t hf hc3
          refine lv_tableIn (tgt := 55) (pc := 1) C0.1 C0.2.1 dX5_property_1 (by rw [hc3]; decide) (by rw [hc3]; decide) (by rw [hc3]; rfl) (by decide) ?_
          refine lv_aload_n (pc := 55) C0.1 C0.2.1 dX5_property_55 rfl (lv_at hl 0 rfl) ?_
          refine x_get (pc := 56) (v := .int (u.1 v0 3)) C0 hK hw (jy_T hv0) (ly_T hv0) rfl inX5 3 (by decide) wf_X5_19 rfl rfl dX5_property_56 ?_
          exact x_iret (pc := 59) C0 hK hk hr hw (congrArg (fun z => (z, u)) (Option.some.inj hf)) dX5_property_59
        · have hf := if_f hf hc3
          by_cases hc4 : v1 = 4
          · have hf := if_t hf hc4
            refine lv_tableIn (tgt := 60) (pc := 1) C0.1 C0.2.1 dX5_property_1 (by rw [hc4]; decide) (by rw [hc4]; decide) (by rw [hc4]; rfl) (by decide) ?_
            refine lv_aload_n (pc := 60) C0.1 C0.2.1 dX5_property_60 rfl (lv_at hl 0 rfl) ?_
            refine x_get (pc := 61) (v := .int (u.1 v0 4)) C0 hK hw (jy_T hv0) (ly_T hv0) rfl inX5 4 (by decide) wf_X5_22 rfl rfl dX5_property_61 ?_
            exact x_iret (pc := 64) C0 hK hk hr hw (congrArg (fun z => (z, u)) (Option.some.inj hf)) dX5_property_64
          · have hf := if_f hf hc4
            by_cases hc5 : v1 = 5
            · have hf := if_t hf hc5
              refine lv_tableIn (tgt := 65) (pc := 1) C0.1 C0.2.1 dX5_property_1 (by rw [hc5]; decide) (by rw [hc5]; decide) (by rw [hc5]; rfl) (by decide) ?_
              refine lv_aload_n (pc := 65) C0.1 C0.2.1 dX5_property_65 rfl (lv_at hl 0 rfl) ?_
              refine x_get (pc := 66) (v := .int (u.1 v0 5)) C0 hK hw (jy_T hv0) (ly_T hv0) rfl inX5 5 (by decide) wf_X5_28 rfl rfl dX5_property_66 ?_
              refine lv_if_eq (tgt := 76) (pc := 69) C0.1 C0.2.1 dX5_property_69 (by decide) (fun hc => ?_) (fun hc => ?_)
              · have hf := if_t hf hc
                refine lv_iconst (v := 0) (pc := 76) C0.1 C0.2.1 dX5_property_76 (by decide) ?_
                exact x_iret (pc := 77) C0 hK hk hr hw (congrArg (fun z => (z, u)) (Option.some.inj hf)) dX5_property_77
              · have hf := if_f hf hc
                refine lv_iconst (v := 1) (pc := 72) C0.1 C0.2.1 dX5_property_72 (by decide) ?_
                refine lv_goto (tgt := 77) (pc := 73) C0.1 C0.2.1 dX5_property_73 (by decide) ?_
                exact x_iret (pc := 77) C0 hK hk hr hw (congrArg (fun z => (z, u)) (Option.some.inj hf)) dX5_property_77
            · have hf := if_f hf hc5
              refine lv_tableOut (tgt := 78) (pc := 1) C0.1 C0.2.1 dX5_property_1 (by have h0 := lv_neT hc0 (a := 0) (by decide); have h1 := lv_neT hc1 (a := 1) (by decide); have h2 := lv_neT hc2 (a := 2) (by decide); have h3 := lv_neT hc3 (a := 3) (by decide); have h4 := lv_neT hc4 (a := 4) (by decide); have h5 := lv_neT hc5 (a := 5) (by decide); omega) (by decide) ?_
              refine lv_aload_n (pc := 78) C0.1 C0.2.1 dX5_property_78 rfl (lv_at hl 0 rfl) ?_
              refine x_get (pc := 79) (v := .int (u.1 v0 6)) C0 hK hw (jy_T hv0) (ly_T hv0) rfl inX5 6 (by decide) wf_X5_32 rfl rfl dX5_property_79 ?_
              refine lv_if_eq (tgt := 89) (pc := 82) C0.1 C0.2.1 dX5_property_82 (by decide) (fun hc => ?_) (fun hc => ?_)
              · have hf := if_t hf hc
                refine lv_iconst (v := 0) (pc := 89) C0.1 C0.2.1 dX5_property_89 (by decide) ?_
                exact x_iret (pc := 90) C0 hK hk hr hw (congrArg (fun z => (z, u)) (Option.some.inj hf)) dX5_property_90
              · have hf := if_f hf hc
                refine lv_iconst (v := 1) (pc := 85) C0.1 C0.2.1 dX5_property_85 (by decide) ?_
                refine lv_goto (tgt := 90) (pc := 86) C0.1 C0.2.1 dX5_property_86 (by decide) ?_
                exact x_iret (pc := 90) C0 hK hk hr hw (congrArg (fun z => (z, u)) (Option.some.inj hf)) dX5_property_90
end
