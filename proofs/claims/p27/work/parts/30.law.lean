set_option maxRecDepth 100000 in
theorem wc_L_packed : Cond.code yL_packed cL_packed 10 (some .boolean) ∈ lwT := lwT_t (List.mem_of_getElem? (i := 540) rfl) rfl
set_option maxRecDepth 100000 in
theorem wc_L_placed : Cond.code yL_placed cL_placed 4 (some .boolean) ∈ lwT := lwT_t (List.mem_of_getElem? (i := 457) (by decide +kernel)) rfl
set_option maxRecDepth 100000 in
theorem wc_L_setUp : Cond.code yL_setUp cL_setUp 8 (some .boolean) ∈ lwT := lwT_t (List.mem_of_getElem? (i := 301) (by decide +kernel)) rfl
set_option maxRecDepth 100000 in
theorem wc_L_told : Cond.code yL_told cL_told 15 (some .boolean) ∈ lwT := lwT_t (List.mem_of_getElem? (i := 412) rfl) rfl
set_option maxRecDepth 100000 in
theorem wc_L_turn : Cond.code yL_turn cL_turn 10 (some .boolean) ∈ lwT := lwT_t (List.mem_of_getElem? (i := 518) (by decide +kernel)) rfl
set_option maxRecDepth 100000 in
theorem wc_X6_undo : Cond.code yX6_undo cX6_undo 1 (some .int) ∈ lwT := lwT_t (List.mem_of_getElem? (i := 273) (by decide +kernel)) rfl
set_option maxRecDepth 100000 in
theorem wi_X6_undo : Cond.instanceMethod yX6_undo ∈ lwT := lwT_t (List.mem_of_getElem? (i := 271) (by decide +kernel)) rfl
set_option maxRecDepth 100000 in
theorem wm_L_100 : Cond.methodLink RL 100 yL_turn ∈ lwT := lwT_t (List.mem_of_getElem? (i := 516) (by decide +kernel)) rfl
set_option maxRecDepth 100000 in
theorem wm_L_104 : Cond.methodLink RL 104 yL_told ∈ lwT := lwT_t (List.mem_of_getElem? (i := 410) (by decide +kernel)) rfl
set_option maxRecDepth 100000 in
theorem wm_L_108 : Cond.methodLink RL 108 yL_placed ∈ lwT := lwT_t (List.mem_of_getElem? (i := 455) (by decide +kernel)) rfl
set_option maxRecDepth 100000 in
theorem wm_L_111 : Cond.methodLink RL 111 yL_packed ∈ lwT := lwT_t (List.mem_of_getElem? (i := 538) (by decide +kernel)) rfl
set_option maxRecDepth 100000 in
theorem wm_L_114 : Cond.methodLink RL 114 yX6_undo ∈ lwT := lwT_t (List.mem_of_getElem? (i := 270) (by decide +kernel)) rfl
set_option maxRecDepth 100000 in
theorem wm_L_96 : Cond.methodLink RL 96 yL_setUp ∈ lwT := lwT_t (List.mem_of_getElem? (i := 299) (by decide +kernel)) rfl
set_option maxRecDepth 100000 in
theorem ws_X6_undo : Cond.selects RX6 yX6_undo yX6_undo ∈ lwT := lwT_t (List.mem_of_getElem? (i := 272) (by decide +kernel)) rfl
set_option maxRecDepth 100000 in
theorem wt_L_packed : Cond.static yL_packed ∈ lwT := lwT_t (List.mem_of_getElem? (i := 539) (by decide +kernel)) rfl
set_option maxRecDepth 100000 in
theorem wt_L_placed : Cond.static yL_placed ∈ lwT := lwT_t (List.mem_of_getElem? (i := 456) (by decide +kernel)) rfl
set_option maxRecDepth 100000 in
theorem wt_L_setUp : Cond.static yL_setUp ∈ lwT := lwT_t (List.mem_of_getElem? (i := 300) (by decide +kernel)) rfl
set_option maxRecDepth 100000 in
theorem wt_L_told : Cond.static yL_told ∈ lwT := lwT_t (List.mem_of_getElem? (i := 411) (by decide +kernel)) rfl
set_option maxRecDepth 100000 in
theorem wt_L_turn : Cond.static yL_turn ∈ lwT := lwT_t (List.mem_of_getElem? (i := 517) (by decide +kernel)) rfl
theorem hd_L_packed : yL_packed.cls ≠ "java/lang/invoke/MethodHandle" ∧ yL_packed.cls ≠ "java/lang/invoke/VarHandle" ∧ (parseMethodDescriptor yL_packed.desc).map (fun d => d.parameters.length) = some 1 := by decide +kernel
theorem hd_L_placed : yL_placed.cls ≠ "java/lang/invoke/MethodHandle" ∧ yL_placed.cls ≠ "java/lang/invoke/VarHandle" ∧ (parseMethodDescriptor yL_placed.desc).map (fun d => d.parameters.length) = some 2 := by decide +kernel
theorem hd_L_setUp : yL_setUp.cls ≠ "java/lang/invoke/MethodHandle" ∧ yL_setUp.cls ≠ "java/lang/invoke/VarHandle" ∧ (parseMethodDescriptor yL_setUp.desc).map (fun d => d.parameters.length) = some 4 := by decide +kernel
theorem hd_L_told : yL_told.cls ≠ "java/lang/invoke/MethodHandle" ∧ yL_told.cls ≠ "java/lang/invoke/VarHandle" ∧ (parseMethodDescriptor yL_told.desc).map (fun d => d.parameters.length) = some 1 := by decide +kernel
theorem hd_L_turn : yL_turn.cls ≠ "java/lang/invoke/MethodHandle" ∧ yL_turn.cls ≠ "java/lang/invoke/VarHandle" ∧ (parseMethodDescriptor yL_turn.desc).map (fun d => d.parameters.length) = some 2 := by decide +kernel
theorem hd_X6_undo : yX6_undo.cls = RX6 ∧ yX6_undo.cls ≠ "java/lang/invoke/MethodHandle" ∧ yX6_undo.cls ≠ "java/lang/invoke/VarHandle" ∧ (parseMethodDescriptor yX6_undo.desc).map (fun d => d.parameters.length) = some 0 := by decide +kernel
/-! THE CLAIM OUT OF ONE WALK OF THE LAW'S BODY. Your part is whole_start (and what it stands on); all else here is the same for every law, but numbers. -/
def R_law : String := "TrayBoxLaw"
def lw_P (b : Addr) (xs : List Int32) (args : Array Value) (s : State) : Prop := args = #[.ref b] ∧ s.IntsAt b xs ∧ xs.length ≤ 260 ∧ (Jvm.Cond.and given_1 narrow_1).before args s = true
def lw_Q (_ : Array Value) (s : State) (o : Outcome) (t : State) : Prop := o = .returned (some (.int 1)) ∧ Framed s o t [] 622239 7235530
def lw_Z (below : List Frame) (a : Array Value) (s : State) : State → Prop := fun t => ∃ o, t.status = .running ∧ Ended t below o ∧ lw_Q a s o t
/-- the law's own end, with 1 on the stack, nothing written that was there before, its room as the claim has it -/
theorem lw_ret {p : Program} {l : Launch} {e : Env} {s : State} {m : MethodId} {below : List Frame} {meth : Method} {c : Code} {b : Nat} (hx : p.tables.exec = Jvm.exec) (hb : c.code = code) (hr : meth.sig.returnType = ret) (hlocks : meth.locks = false) {pc : Nat} {H : Heap} {ls : Array Slot} (hdg : decode code pc = .ok (.ireturn, 1)) : W p l e room_1 s m #[Value.ref b] below meth c H [] 622239 7235530 (lw_Z below #[Value.ref b] s) (F0 m pc ls [.int 1]) := by
  intro T hT X
  obtain ⟨fs, hret, hrun, hended, hW, hframe⟩ := X.leave (v := some (.int 1)) (hlocks := hlocks) (fun h => by rw [hr] at h; cases h)
  have hmeth' : T.vm.method? m = some meth := X.method'
  refine ⟨T.setFrames fs, ?_, .returned (some (.int 1)), hrun, hended, rfl, ⟨_, rfl⟩, hW, hframe⟩
  jvm_step X.here [X.here.top, hx, hb, hdg, hmeth', hr, ret, narrow_b1]
  (try refine ⟨rfl, ?_⟩); (try refine ⟨rfl, ?_⟩)
  first | (intro acts; rw [hret _ acts rfl rfl rfl]) | rw [hret _ _ rfl rfl rfl]
  exact Steps.refl _
/-- what holds at the law's entry: the machine, the code, the tables' words (any of lw_tbl by 'hts w (by decide +kernel)'), the script of L ints xs at the cell b, what the Statement gives of the start (any of its parts by flat_of_before) -/
def lw_At (p : Program) (s : State) (m : MethodId) (meth : Method) (c : Code) (b L : Nat) (xs : Nat → Int32) : Prop :=
  p.tables.exec = Jvm.exec ∧ c.code = code ∧ meth.sig.returnType = ret ∧ c.maxLocals = 5 ∧ s.vm.findClass R_law = some m.cls ∧ (∀ w ∈ lw_tbl, w.before #[Value.ref b] s = true) ∧ va_X b L xs s s.heap ∧ b < s.heap.size ∧ meth.locks = false ∧ (Jvm.Cond.and given_1 narrow_1).before #[Value.ref b] s = true
set_option maxRecDepth 100000 in
set_option maxHeartbeats 4000000 in
theorem law_walk {p : Program} (l : Launch) {e : Env} {s : State} {m : MethodId} {below : List Frame} {meth : Method} {c : Code} {D : va_G} {y : Nat → ClassId} {ad : Nat → Nat} {b L : Nat} {xs : Nat → Int32} (hI : XI ad 168) (hnew : ∀ j, j < 168 → s.heap.size ≤ ad j) (C0 : CallFix p m c cL_law 5 s #[Value.ref b] lwT RL) (hK : XK D y s) (hr : meth.sig.returnType = ret) (hlocks : meth.locks = false) (hXs : va_X b L xs s s.heap) (hbl : b < s.heap.size) (hbA : ¬ XA ad 168 b) {H : Heap} {locs : List Loc} {ls : Array Slot} {u : S} {o : Int32 × S} (ho : o.1 = 1) (hf : fL_law L xs u = some o) (hw : XH D y ad LX 168 u s.heap H locs) (hl : lv_has ls 5 [(1, .ref (ad 167)), (0, .ref b)]) : W p l e room_1 s m #[Value.ref b] below meth c H locs 168 2424 (lw_Z below #[Value.ref b] s) (F0 m 8 ls []) := by
  unfold fL_law at hf
  refine lv_iconst (v := 1) (pc := 8) C0.1 C0.2.1 dL_law_8 (by decide) ?_
  refine lv_aload_n (pc := 9) C0.1 C0.2.1 dL_law_9 rfl (lv_at hl 1 rfl) ?_
  refine lv_iconst (v := 0) (pc := 10) C0.1 C0.2.1 dL_law_10 (by decide) ?_
  obtain ⟨q1, hq1, hf⟩ := bd_e hf
  refine x_backp (pc := 11) hw (y_runS (pc := 11) (As := [.ref b, .int 0]) (rest := [.int 1]) C0 hK hw hXs hbl hbA hl.1 ⟨Nat.le_of_ble_eq_true rfl, Nat.le_of_ble_eq_true rfl⟩ (kL_cell l D y ad hI b L xs hbA 0 u hq1) rfl wc_L_cell wm_L_10 wt_L_cell wn_L ⟨rfl, rfl⟩ hd_L_cell rfl ⟨Nat.le_of_ble_eq_true rfl, Nat.le_of_ble_eq_true rfl⟩ (Nat.le_of_ble_eq_true rfl) dL_law_11) (fun H locs hw => ?_)
  refine lv_bipush (v := 7) (pc := 14) C0.1 C0.2.1 dL_law_14 (by decide) ?_
  obtain ⟨q2, hq2, hf⟩ := bd_e hf
  refine x_backp (pc := 16) hw (z_runS (pc := 16) (aa := ad) (As := [.int q1, .int 7]) (rest := [.int 1]) C0 hK hw.1 hl.1 ⟨Nat.le_of_ble_eq_true rfl, Nat.le_of_ble_eq_true rfl⟩ (kL_low l D y ad hI q1 7 u hq2) rfl wc_L_low wm_L_16 wt_L_low wn_L ⟨rfl, rfl⟩ hd_L_low rfl ⟨Nat.le_of_ble_eq_true rfl, Nat.le_of_ble_eq_true rfl⟩ (Nat.le_of_ble_eq_true rfl) dL_law_16) (fun H locs hw => ?_)
  refine lv_iadd (pc := 19) C0.1 C0.2.1 dL_law_19 ?_
  refine lv_istore_n (pc := 20) (lv' := [(2, .int (1 + q2)), (1, .ref (ad 167)), (0, .ref b)]) C0.1 C0.2.1 dL_law_20 rfl hl (by decide) rfl (fun ls hl => ?_)
  refine lv_aload_n (pc := 21) C0.1 C0.2.1 dL_law_21 rfl (lv_at hl 1 rfl) ?_
  refine lv_aload_n (pc := 22) C0.1 C0.2.1 dL_law_22 rfl (lv_at hl 2 rfl) ?_
  refine lv_iconst (v := 1) (pc := 23) C0.1 C0.2.1 dL_law_23 (by decide) ?_
  refine lv_iload_n (pc := 24) C0.1 C0.2.1 dL_law_24 rfl (lv_at hl 0 rfl) ?_
  obtain ⟨q3, hq3, hf⟩ := bd_e hf
  refine x_back (pc := 25) hw (y_runS (pc := 25) (As := [.ref (ad 167), .ref b, .int 1, .int (1 + q2)]) (rest := []) C0 hK hw hXs hbl hbA hl.1 ⟨Nat.le_of_ble_eq_true rfl, Nat.le_of_ble_eq_true rfl⟩ (kL_setUp l D y ad hI b L xs hbA 1 (1 + q2) u hq3) rfl wc_L_setUp wm_L_96 wt_L_setUp wn_L ⟨rfl, rfl⟩ hd_L_setUp rfl ⟨Nat.le_of_ble_eq_true rfl, Nat.le_of_ble_eq_true rfl⟩ (Nat.le_of_ble_eq_true rfl) dL_law_25) (fun H locs hw => ?_)
  refine lv_if_ne (tgt := 33) (pc := 28) C0.1 C0.2.1 dL_law_28 (by decide) (fun hc => ?_) (fun hc => ?_)
  · have hf := if_f hf hc
    refine lv_iconst (v := 0) (pc := 33) C0.1 C0.2.1 dL_law_33 (by decide) ?_
    refine lv_istore_n (pc := 34) (lv' := [(3, .int 0), (2, .int (1 + q2)), (1, .ref (ad 167)), (0, .ref b)]) C0.1 C0.2.1 dL_law_34 rfl hl (by decide) rfl (fun ls hl => ?_)
    obtain ⟨e4, he4, hf⟩ := bd_e hf
    have hRc : room_1.cells = 622239 := rfl
    have hRs : room_1.slots = 7235530 := rfl
    refine X_loopRC (C1 := 4168) (S1 := 28424) (dc := 2) (ds := 13) (pc := 35) (xpc := 91) (fu := fun a1 => a1.2) (fl := fun a1 => [(3, .int a1.1), (2, .int (1 + q2)), (1, .ref (ad 167)), (0, .ref b)]) (o := o) (fun cells slots a1 r hf hcl hsl hX hE hG H locs ls hw hl => ?_) he4 ?_ ?_ (Nat.le_of_ble_eq_true rfl) (Nat.le_of_ble_eq_true rfl) hw hl
    · unfold gL_law_35 at hf
      refine lv_iload_n (pc := 35) C0.1 C0.2.1 dL_law_35 rfl (lv_at hl 0 rfl) ?_
      refine lv_bipush (v := 12) (pc := 36) C0.1 C0.2.1 dL_law_36 (by decide) ?_
      refine lv_icmp_ge (tgt := 91) (pc := 38) C0.1 C0.2.1 dL_law_38 (by decide) (fun hc => ?_) (fun hc => ?_)
      · have hf := if_t hf hc
        exact W.widen (by omega) (by omega) (hE _ (Option.some.inj hf).symm H locs ls hw (lv_sub hl [0, 1, 2, 3] rfl))
      · have hf := if_f hf hc
        refine lv_aload_n (pc := 41) C0.1 C0.2.1 dL_law_41 rfl (lv_at hl 3 rfl) ?_
        refine lv_bipush (v := 9) (pc := 42) C0.1 C0.2.1 dL_law_42 (by decide) ?_
        refine lv_iload_n (pc := 44) C0.1 C0.2.1 dL_law_44 rfl (lv_at hl 0 rfl) ?_
        refine lv_iadd (pc := 45) C0.1 C0.2.1 dL_law_45 ?_
        obtain ⟨q5, hq5, hf⟩ := bd_e hf
        refine x_backp (pc := 46) hw (y_runS (pc := 46) (As := [.ref b, .int (9 + a1.1)]) (rest := []) C0 hK hw hXs hbl hbA hl.1 ⟨by omega, by omega⟩ (kL_cell l D y ad hI b L xs hbA (9 + a1.1) a1.2 hq5) rfl wc_L_cell wm_L_10 wt_L_cell wn_L ⟨rfl, rfl⟩ hd_L_cell rfl ⟨Nat.le_of_ble_eq_true rfl, Nat.le_of_ble_eq_true rfl⟩ (Nat.le_of_ble_eq_true rfl) dL_law_46) (fun H locs hw => ?_)
        refine lv_istore (pc := 49) (lv' := [(4, .int q5), (3, .int a1.1), (2, .int (1 + q2)), (1, .ref (ad 167)), (0, .ref b)]) C0.1 C0.2.1 dL_law_49 hl (by decide) rfl (fun ls hl => ?_)
        refine lv_aload_n (pc := 51) C0.1 C0.2.1 dL_law_51 rfl (lv_at hl 3 rfl) ?_
        refine lv_iload (pc := 52) C0.1 C0.2.1 dL_law_52 (lv_at hl 0 rfl) ?_
        obtain ⟨q6, hq6, hf⟩ := bd_e hf
        refine x_back (pc := 54) hw (z_runS (pc := 54) (aa := ad) (As := [.ref (ad 167), .int q5]) (rest := []) C0 hK hw.1 hl.1 ⟨by omega, by omega⟩ (kL_turn l D y ad hI q5 a1.2 hq6) rfl wc_L_turn wm_L_100 wt_L_turn wn_L ⟨rfl, rfl⟩ hd_L_turn rfl ⟨Nat.le_of_ble_eq_true rfl, Nat.le_of_ble_eq_true rfl⟩ (Nat.le_of_ble_eq_true rfl) dL_law_54) (fun H locs hw => ?_)
        refine lv_if_eq (tgt := 83) (pc := 57) C0.1 C0.2.1 dL_law_57 (by decide) (fun hc => ?_) (fun hc => ?_)
        · have hf := if_t hf hc
          refine lv_iconst (v := 0) (pc := 83) C0.1 C0.2.1 dL_law_83 (by decide) ?_
          exact absurd ((congrArg Prod.fst (hX _ (Option.some.inj hf).symm)).trans ho) (show ¬ (0 : Int32) = 1 by decide)
        · have hf := if_f hf hc
          refine lv_aload_n (pc := 60) C0.1 C0.2.1 dL_law_60 rfl (lv_at hl 3 rfl) ?_
          obtain ⟨q7, hq7, hf⟩ := bd_e hf
          refine x_backM (pc := 61) hw (z_runS (pc := 61) (aa := ad) (As := [.ref (ad 167)]) (rest := []) C0 hK hw.1 hl.1 ⟨by omega, by omega⟩ (kL_told l D y ad hI  q6.2 hq7) rfl wc_L_told wm_L_104 wt_L_told wn_L ⟨rfl, rfl⟩ hd_L_told rfl ⟨Nat.le_of_ble_eq_true rfl, Nat.le_of_ble_eq_true rfl⟩ (Nat.le_of_ble_eq_true rfl) dL_law_61) (fun H locs hw => ?_)
          refine lv_if_eq (tgt := 83) (pc := 64) C0.1 C0.2.1 dL_law_64 (by decide) (fun hc => ?_) (fun hc => ?_)
          · have hf := if_t hf hc
            refine lv_iconst (v := 0) (pc := 83) C0.1 C0.2.1 dL_law_83 (by decide) ?_
            exact absurd ((congrArg Prod.fst (hX _ (Option.some.inj hf).symm)).trans ho) (show ¬ (0 : Int32) = 1 by decide)
          · have hf := if_f hf hc
            refine lv_aload_n (pc := 67) C0.1 C0.2.1 dL_law_67 rfl (lv_at hl 3 rfl) ?_
            refine lv_iload (pc := 68) C0.1 C0.2.1 dL_law_68 (lv_at hl 0 rfl) ?_
            refine lv_bipush (v := 15) (pc := 70) C0.1 C0.2.1 dL_law_70 (by decide) ?_
            refine lv_ishr (pc := 72) C0.1 C0.2.1 dL_law_72 ?_
            refine lv_iload_n (pc := 73) C0.1 C0.2.1 dL_law_73 rfl (lv_at hl 2 rfl) ?_
            obtain ⟨q8, hq8, hf⟩ := bd_e hf
            refine x_backp (pc := 74) hw (z_runS (pc := 74) (aa := ad) (As := [.int (q5 >>> (15 &&& 31)), .int (1 + q2)]) (rest := [.ref (ad 167)]) C0 hK hw.1 hl.1 ⟨by omega, by omega⟩ (kL_low l D y ad hI (q5 >>> (15 &&& 31)) (1 + q2) q7.2 hq8) rfl wc_L_low wm_L_16 wt_L_low wn_L ⟨rfl, rfl⟩ hd_L_low rfl ⟨Nat.le_of_ble_eq_true rfl, Nat.le_of_ble_eq_true rfl⟩ (Nat.le_of_ble_eq_true rfl) dL_law_74) (fun H locs hw => ?_)
            obtain ⟨q9, hq9, hf⟩ := bd_e hf
            refine x_backM (pc := 77) hw (z_runS (pc := 77) (aa := ad) (As := [.ref (ad 167), .int q8]) (rest := []) C0 hK hw.1 hl.1 ⟨by omega, by omega⟩ (kL_placed l D y ad hI q8 q7.2 hq9) rfl wc_L_placed wm_L_108 wt_L_placed wn_L ⟨rfl, rfl⟩ hd_L_placed rfl ⟨Nat.le_of_ble_eq_true rfl, Nat.le_of_ble_eq_true rfl⟩ (Nat.le_of_ble_eq_true rfl) dL_law_77) (fun H locs hw => ?_)
            refine lv_if_ne (tgt := 85) (pc := 80) C0.1 C0.2.1 dL_law_80 (by decide) (fun hc => ?_) (fun hc => ?_)
            · have hf := if_f hf hc
              refine lv_iinc (pc := 85) (v := a1.1 + 1) (lv' := [(3, .int (a1.1 + 1)), (4, .int q5), (2, .int (1 + q2)), (1, .ref (ad 167)), (0, .ref b)]) C0.1 C0.2.1 dL_law_85 hl (k := 1) rfl rfl (by decide) rfl (fun ls hl => ?_)
              refine lv_goto (tgt := 35) (pc := 88) C0.1 C0.2.1 dL_law_88 (by decide) ?_
              exact hG _ (Option.some.inj hf).symm H locs ls hw (lv_sub hl [0, 2, 3, 4] rfl)
            · have hf := if_t hf hc
              refine lv_iconst (v := 0) (pc := 83) C0.1 C0.2.1 dL_law_83 (by decide) ?_
              exact absurd ((congrArg Prod.fst (hX _ (Option.some.inj hf).symm)).trans ho) (show ¬ (0 : Int32) = 1 by decide)
    · intro x hx
      subst hx
      exact Option.some.inj hf
    · intro e4x he H locs ls hw hl
      subst he
      have hf := sum_r hf
      refine lv_aload_n (pc := 91) C0.1 C0.2.1 dL_law_91 rfl (lv_at hl 2 rfl) ?_
      obtain ⟨q10, hq10, hf⟩ := bd_e hf
      refine x_backM (pc := 92) hw (z_runS (pc := 92) (aa := ad) (As := [.ref (ad 167)]) (rest := []) C0 hK hw.1 hl.1 ⟨Nat.le_of_ble_eq_true rfl, Nat.le_of_ble_eq_true rfl⟩ (kL_packed l D y ad hI  e4x.2 hq10) rfl wc_L_packed wm_L_111 wt_L_packed wn_L ⟨rfl, rfl⟩ hd_L_packed rfl ⟨Nat.le_of_ble_eq_true rfl, Nat.le_of_ble_eq_true rfl⟩ (Nat.le_of_ble_eq_true rfl) dL_law_92) (fun H locs hw => ?_)
      refine lv_if_eq (tgt := 123) (pc := 95) C0.1 C0.2.1 dL_law_95 (by decide) (fun hc => ?_) (fun hc => ?_)
      · have hf := if_t hf hc
        refine lv_iconst (v := 0) (pc := 123) C0.1 C0.2.1 dL_law_123 (by decide) ?_
        exact absurd ((congrArg Prod.fst (Option.some.inj hf)).trans ho) (show ¬ (0 : Int32) = 1 by decide)
      · have hf := if_f hf hc
        refine lv_aload_n (pc := 98) C0.1 C0.2.1 dL_law_98 rfl (lv_at hl 2 rfl) ?_
        obtain ⟨q11, hq11, hf⟩ := bd_e hf
        refine x_backM (pc := 99) hw (z_runS (pc := 99) (aa := ad) (As := [.ref (ad 167)]) (rest := []) C0 hK hw.1 hl.1 ⟨Nat.le_of_ble_eq_true rfl, Nat.le_of_ble_eq_true rfl⟩ (kL_told l D y ad hI  q10.2 hq11) rfl wc_L_told wm_L_104 wt_L_told wn_L ⟨rfl, rfl⟩ hd_L_told rfl ⟨Nat.le_of_ble_eq_true rfl, Nat.le_of_ble_eq_true rfl⟩ (Nat.le_of_ble_eq_true rfl) dL_law_99) (fun H locs hw => ?_)
        refine lv_if_eq (tgt := 123) (pc := 102) C0.1 C0.2.1 dL_law_102 (by decide) (fun hc => ?_) (fun hc => ?_)
        · have hf := if_t hf hc
          refine lv_iconst (v := 0) (pc := 123) C0.1 C0.2.1 dL_law_123 (by decide) ?_
          exact absurd ((congrArg Prod.fst (Option.some.inj hf)).trans ho) (show ¬ (0 : Int32) = 1 by decide)
        · have hf := if_f hf hc
          refine lv_aload_n (pc := 105) C0.1 C0.2.1 dL_law_105 rfl (lv_at hl 2 rfl) ?_
          obtain ⟨q12, hq12, hf⟩ := bd_e hf
          refine x_back (pc := 106) hw (z_runV (pc := 106) (aa := ad) (As := []) (rest := []) C0 hK hw.1 hl.1 ⟨Nat.le_of_ble_eq_true rfl, Nat.le_of_ble_eq_true rfl⟩ (kX6_undo l D y ad hI  q11.2 hq12) (by decide) ly_M rfl rfl wc_X6_undo wm_L_114 wi_X6_undo ws_X6_undo wn_X6 ⟨rfl, rfl⟩ hd_X6_undo rfl ⟨Nat.le_of_ble_eq_true rfl, Nat.le_of_ble_eq_true rfl⟩ (Nat.le_of_ble_eq_true rfl) dL_law_106) (fun H locs hw => ?_)
          refine lv_if_lt (tgt := 123) (pc := 109) C0.1 C0.2.1 dL_law_109 (by decide) (fun hc => ?_) (fun hc => ?_)
          · have hf := if_t hf hc
            refine lv_iconst (v := 0) (pc := 123) C0.1 C0.2.1 dL_law_123 (by decide) ?_
            exact absurd ((congrArg Prod.fst (Option.some.inj hf)).trans ho) (show ¬ (0 : Int32) = 1 by decide)
          · have hf := if_f hf hc
            refine lv_aload_n (pc := 112) C0.1 C0.2.1 dL_law_112 rfl (lv_at hl 2 rfl) ?_
            obtain ⟨q13, hq13, hf⟩ := bd_e hf
            refine x_backM (pc := 113) hw (z_runS (pc := 113) (aa := ad) (As := [.ref (ad 167)]) (rest := []) C0 hK hw.1 hl.1 ⟨Nat.le_of_ble_eq_true rfl, Nat.le_of_ble_eq_true rfl⟩ (kL_told l D y ad hI  q12.2 hq13) rfl wc_L_told wm_L_104 wt_L_told wn_L ⟨rfl, rfl⟩ hd_L_told rfl ⟨Nat.le_of_ble_eq_true rfl, Nat.le_of_ble_eq_true rfl⟩ (Nat.le_of_ble_eq_true rfl) dL_law_113) (fun H locs hw => ?_)
            refine lv_if_eq (tgt := 123) (pc := 116) C0.1 C0.2.1 dL_law_116 (by decide) (fun hc => ?_) (fun hc => ?_)
            · have hf := if_t hf hc
              refine lv_iconst (v := 0) (pc := 123) C0.1 C0.2.1 dL_law_123 (by decide) ?_
              exact absurd ((congrArg Prod.fst (Option.some.inj hf)).trans ho) (show ¬ (0 : Int32) = 1 by decide)
            · have hf := if_f hf hc
              refine lv_iconst (v := 1) (pc := 119) C0.1 C0.2.1 dL_law_119 (by decide) ?_
              refine lv_goto (tgt := 124) (pc := 120) C0.1 C0.2.1 dL_law_120 (by decide) ?_
              refine W.widen (k := 622239) (n := 7235530) (Nat.le_of_ble_eq_true rfl) (Nat.le_of_ble_eq_true rfl) ?_
              refine va_forget (fun q hq => ?_) ?_
              · obtain ⟨j, hj, h⟩ := hw.2.2.2 q hq
                exact h ▸ hnew j hj
              · exact lw_ret C0.1 C0.2.1 hr hlocks dL_law_124
  · have hf := if_t hf hc
    refine lv_iconst (v := 0) (pc := 31) C0.1 C0.2.1 dL_law_31 (by decide) ?_
    exact absurd ((congrArg Prod.fst (Option.some.inj hf)).trans ho) (show ¬ (0 : Int32) = 1 by decide)
