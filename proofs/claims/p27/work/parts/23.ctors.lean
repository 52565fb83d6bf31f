set_option maxRecDepth 100000 in
theorem wa_char : Cond.arrayClass .char ∈ lwT := lwT_t (List.mem_of_getElem? (i := 173) (by decide +kernel)) rfl
set_option maxRecDepth 100000 in
theorem wa_int : Cond.arrayClass .int ∈ lwT := lwT_t (List.mem_of_getElem? (i := 221) (by decide +kernel)) rfl
set_option maxRecDepth 100000 in
theorem wc_X0_init : Cond.code yX0_init cX0_init 2 none ∈ lwT := lwT_t (List.mem_of_getElem? (i := 23) (by decide +kernel)) rfl
set_option maxRecDepth 100000 in
theorem wc_X1_init : Cond.code yX1_init cX1_init 1 none ∈ lwT := lwT_t (List.mem_of_getElem? (i := 178) (by decide +kernel)) rfl
set_option maxRecDepth 100000 in
theorem wc_X2_init : Cond.code yX2_init cX2_init 2 none ∈ lwT := lwT_t (List.mem_of_getElem? (i := 132) (by decide +kernel)) rfl
set_option maxRecDepth 100000 in
theorem wc_X3_init : Cond.code yX3_init cX3_init 1 none ∈ lwT := lwT_t (List.mem_of_getElem? (i := 226) (by decide +kernel)) rfl
set_option maxRecDepth 100000 in
theorem wc_X4_init : Cond.code yX4_init cX4_init 1 none ∈ lwT := lwT_t (List.mem_of_getElem? (i := 152) (by decide +kernel)) rfl
set_option maxRecDepth 100000 in
theorem wc_X5_init : Cond.code yX5_init cX5_init 1 none ∈ lwT := lwT_t (List.mem_of_getElem? (i := 30) (by decide +kernel)) rfl
set_option maxRecDepth 100000 in
theorem wc_obj : Cond.code objectInit ⟨#[0xb1]⟩ 1 none ∈ lwT := lwT_t (List.mem_of_getElem? (i := 18) (by decide +kernel)) rfl
set_option maxRecDepth 100000 in
theorem wf_X4_18 : Cond.fieldLink RX4 18 "TrayBox$Text" "result" "LTrayBox$Box;" ∈ lwT := lwT_t (List.mem_of_getElem? (i := 158) (by decide +kernel)) rfl
set_option maxRecDepth 100000 in
theorem wf_X4_22 : Cond.fieldLink RX4 22 "TrayBox$Text" "signs" "[C" ∈ lwT := lwT_t (List.mem_of_getElem? (i := 159) (by decide +kernel)) rfl
set_option maxRecDepth 100000 in
theorem wf_X4_9 : Cond.fieldLink RX4 9 "TrayBox$Text" "fault" "I" ∈ lwT := lwT_t (List.mem_of_getElem? (i := 157) (by decide +kernel)) rfl
set_option maxRecDepth 100000 in
theorem wi_X0_init : Cond.instanceMethod yX0_init ∈ lwT := lwT_t (List.mem_of_getElem? (i := 22) (by decide +kernel)) rfl
set_option maxRecDepth 100000 in
theorem wi_X1_init : Cond.instanceMethod yX1_init ∈ lwT := lwT_t (List.mem_of_getElem? (i := 177) (by decide +kernel)) rfl
set_option maxRecDepth 100000 in
theorem wi_X2_init : Cond.instanceMethod yX2_init ∈ lwT := lwT_t (List.mem_of_getElem? (i := 131) (by decide +kernel)) rfl
set_option maxRecDepth 100000 in
theorem wi_X3_init : Cond.instanceMethod yX3_init ∈ lwT := lwT_t (List.mem_of_getElem? (i := 225) (by decide +kernel)) rfl
set_option maxRecDepth 100000 in
theorem wi_X4_init : Cond.instanceMethod yX4_init ∈ lwT := lwT_t (List.mem_of_getElem? (i := 151) (by decide +kernel)) rfl
set_option maxRecDepth 100000 in
theorem wi_X5_init : Cond.instanceMethod yX5_init ∈ lwT := lwT_t (List.mem_of_getElem? (i := 29) (by decide +kernel)) rfl
set_option maxRecDepth 100000 in
theorem wi_obj : Cond.instanceMethod objectInit ∈ lwT := lwT_t (List.mem_of_getElem? (i := 17) (by decide +kernel)) rfl
set_option maxRecDepth 100000 in
theorem wl_X0_24 : Cond.classLink RX0 24 RX5 ∈ lwT := lwT_t (List.mem_of_getElem? (i := 25) (by decide +kernel)) rfl
set_option maxRecDepth 100000 in
theorem wl_X2_9 : Cond.classLink RX2 9 RX0 ∈ lwT := lwT_t (List.mem_of_getElem? (i := 134) (by decide +kernel)) rfl
set_option maxRecDepth 100000 in
theorem wl_X3_18 : Cond.classLink RX3 18 RX0 ∈ lwT := lwT_t (List.mem_of_getElem? (i := 228) (by decide +kernel)) rfl
set_option maxRecDepth 100000 in
theorem wl_X3_31 : Cond.classLink RX3 31 RX1 ∈ lwT := lwT_t (List.mem_of_getElem? (i := 230) (by decide +kernel)) rfl
set_option maxRecDepth 100000 in
theorem wl_X4_15 : Cond.classLink RX4 15 RX0 ∈ lwT := lwT_t (List.mem_of_getElem? (i := 154) (by decide +kernel)) rfl
set_option maxRecDepth 100000 in
theorem wl_X6_16 : Cond.classLink RX6 16 RX2 ∈ lwT := lwT_t (List.mem_of_getElem? (i := 128) (by decide +kernel)) rfl
set_option maxRecDepth 100000 in
theorem wl_X6_23 : Cond.classLink RX6 23 RX4 ∈ lwT := lwT_t (List.mem_of_getElem? (i := 148) (by decide +kernel)) rfl
set_option maxRecDepth 100000 in
theorem wl_X6_30 : Cond.classLink RX6 30 RX1 ∈ lwT := lwT_t (List.mem_of_getElem? (i := 174) (by decide +kernel)) rfl
set_option maxRecDepth 100000 in
theorem wl_X6_37 : Cond.classLink RX6 37 RX3 ∈ lwT := lwT_t (List.mem_of_getElem? (i := 222) (by decide +kernel)) rfl
set_option maxRecDepth 100000 in
theorem wl_X6_7 : Cond.classLink RX6 7 RX0 ∈ lwT := lwT_t (List.mem_of_getElem? (i := 19) (by decide +kernel)) rfl
set_option maxRecDepth 100000 in
theorem wm_X0_3 : Cond.methodLink RX0 3 objectInit ∈ lwT := lwT_t (List.mem_of_getElem? (i := 24) (by decide +kernel)) rfl
set_option maxRecDepth 100000 in
theorem wm_X1_3 : Cond.methodLink RX1 3 objectInit ∈ lwT := lwT_t (List.mem_of_getElem? (i := 179) (by decide +kernel)) rfl
set_option maxRecDepth 100000 in
theorem wm_X2_17 : Cond.methodLink RX2 17 yX0_init ∈ lwT := lwT_t (List.mem_of_getElem? (i := 136) (by decide +kernel)) rfl
set_option maxRecDepth 100000 in
theorem wm_X2_3 : Cond.methodLink RX2 3 objectInit ∈ lwT := lwT_t (List.mem_of_getElem? (i := 133) (by decide +kernel)) rfl
set_option maxRecDepth 100000 in
theorem wm_X3_20 : Cond.methodLink RX3 20 yX0_init ∈ lwT := lwT_t (List.mem_of_getElem? (i := 229) (by decide +kernel)) rfl
set_option maxRecDepth 100000 in
theorem wm_X3_3 : Cond.methodLink RX3 3 objectInit ∈ lwT := lwT_t (List.mem_of_getElem? (i := 227) (by decide +kernel)) rfl
set_option maxRecDepth 100000 in
theorem wm_X4_17 : Cond.methodLink RX4 17 yX0_init ∈ lwT := lwT_t (List.mem_of_getElem? (i := 155) (by decide +kernel)) rfl
set_option maxRecDepth 100000 in
theorem wm_X4_3 : Cond.methodLink RX4 3 objectInit ∈ lwT := lwT_t (List.mem_of_getElem? (i := 153) (by decide +kernel)) rfl
set_option maxRecDepth 100000 in
theorem wm_X5_1 : Cond.methodLink RX5 1 objectInit ∈ lwT := lwT_t (List.mem_of_getElem? (i := 31) (by decide +kernel)) rfl
set_option maxRecDepth 100000 in
theorem wm_X6_1 : Cond.methodLink RX6 1 objectInit ∈ lwT := lwT_t (List.mem_of_getElem? (i := 16) (by decide +kernel)) rfl
set_option maxRecDepth 100000 in
theorem wm_X6_18 : Cond.methodLink RX6 18 yX2_init ∈ lwT := lwT_t (List.mem_of_getElem? (i := 130) (by decide +kernel)) rfl
set_option maxRecDepth 100000 in
theorem wm_X6_9 : Cond.methodLink RX6 9 yX0_init ∈ lwT := lwT_t (List.mem_of_getElem? (i := 21) (by decide +kernel)) rfl
set_option maxRecDepth 100000 in
theorem wn_X4 : Cond.initialized RX4 ∈ lwT := lwT_t (List.mem_of_getElem? (i := 5) (by decide +kernel)) rfl
set_option maxRecDepth 100000 in
theorem wo_X0 : Cond.instantiable RX0 6 ∈ lwT := lwT_t (List.mem_of_getElem? (i := 20) (by decide +kernel)) rfl
set_option maxRecDepth 100000 in
theorem wo_X1 : Cond.instantiable RX1 9 ∈ lwT := lwT_t (List.mem_of_getElem? (i := 175) (by decide +kernel)) rfl
set_option maxRecDepth 100000 in
theorem wo_X2 : Cond.instantiable RX2 3 ∈ lwT := lwT_t (List.mem_of_getElem? (i := 129) (by decide +kernel)) rfl
set_option maxRecDepth 100000 in
theorem wo_X3 : Cond.instantiable RX3 6 ∈ lwT := lwT_t (List.mem_of_getElem? (i := 223) (by decide +kernel)) rfl
set_option maxRecDepth 100000 in
theorem wo_X4 : Cond.instantiable RX4 6 ∈ lwT := lwT_t (List.mem_of_getElem? (i := 149) (by decide +kernel)) rfl
set_option maxRecDepth 100000 in
theorem wo_X5 : Cond.instantiable RX5 14 ∈ lwT := lwT_t (List.mem_of_getElem? (i := 27) (by decide +kernel)) rfl
theorem hdc_X0_init : yX0_init.cls ≠ "java/lang/invoke/MethodHandle" ∧ yX0_init.cls ≠ "java/lang/invoke/VarHandle" ∧ (parseMethodDescriptor yX0_init.desc).map (fun d => d.parameters.length) = some 0 := by decide +kernel
theorem hdc_X1_init : yX1_init.cls ≠ "java/lang/invoke/MethodHandle" ∧ yX1_init.cls ≠ "java/lang/invoke/VarHandle" ∧ (parseMethodDescriptor yX1_init.desc).map (fun d => d.parameters.length) = some 0 := by decide +kernel
theorem hdc_X2_init : yX2_init.cls ≠ "java/lang/invoke/MethodHandle" ∧ yX2_init.cls ≠ "java/lang/invoke/VarHandle" ∧ (parseMethodDescriptor yX2_init.desc).map (fun d => d.parameters.length) = some 0 := by decide +kernel
theorem hdc_X3_init : yX3_init.cls ≠ "java/lang/invoke/MethodHandle" ∧ yX3_init.cls ≠ "java/lang/invoke/VarHandle" ∧ (parseMethodDescriptor yX3_init.desc).map (fun d => d.parameters.length) = some 0 := by decide +kernel
theorem hdc_X4_init : yX4_init.cls ≠ "java/lang/invoke/MethodHandle" ∧ yX4_init.cls ≠ "java/lang/invoke/VarHandle" ∧ (parseMethodDescriptor yX4_init.desc).map (fun d => d.parameters.length) = some 0 := by decide +kernel
theorem hdc_X5_init : yX5_init.cls ≠ "java/lang/invoke/MethodHandle" ∧ yX5_init.cls ≠ "java/lang/invoke/VarHandle" ∧ (parseMethodDescriptor yX5_init.desc).map (fun d => d.parameters.length) = some 0 := by decide +kernel
section XCU
variable {p : Program} {l : Launch} {e : Env} {R : Room} {s : State} {m : MethodId} {args : Array Value} {below : List Frame} {meth : Method} {c : Code} {H : Heap} {locs : List Loc} {cells slots : Nat} {Q : State → Prop}
variable {cc : ByteArray} {nL pc : Nat} {own : String} {ls : Array Slot} {rest : List Value} {D : va_G} {y : Nat → ClassId} {A : Nat → Prop} {ws : va_W} {H0 : Heap} {a : Nat}
/-- a field of the cell at the world's head -/
theorem y_put (C0 : CallFix p m c cc nL s args lwT own) (hK : va_K D vwCl (xT y) s) {fs : List Value} {ci N index : Nat} {ref C : String} {T : u_T} (hP : va_P D vwCl ((a, .inr (ci, fs)) :: ws) H) (hD : va_D A ((a, .inr (ci, fs)) :: ws)) (hS0 : va_S A H0 H locs) (hin : ∀ w ∈ u_ws C T N, w ∈ lwT) {ty0 : Nat → FieldType} (hty : ∀ k, k < N → parseFieldDescriptor (T k).2.2.1 = some (ty0 k)) (hnm : ∀ a, a < N → ∀ b, b < N → a ≠ b → (T a).2.1 ≠ (T b).2.1) (hc : vwCl[ci]? = some (C, T, N)) (k : Nat) (hk : k < N) (hlink : Cond.fieldLink own index ref (T k).2.1 (T k).2.2.1 ∈ lwT) (hsame : (T k).1 = ref) (hfin : (T k).2.2.2 = false) {v : Value} (hn : narrow (ty0 k) v = v) (hfit : fits (ty0 k) v = true) (hl : k < fs.length) {fs' : List Value} (hfs : fs.set k v = fs')
    (hdg : decode cc pc = .ok (.putfield index, 3)) (kk : ∀ (H1 : Heap) (locs1 : List Loc), va_P D vwCl ((a, .inr (ci, fs')) :: ws) H1 → va_D A ((a, .inr (ci, fs')) :: ws) → va_S A H0 H1 locs1 → H1.size = H.size → W p l e R s m args below meth c H1 locs1 cells slots Q (F0 m (pc + 3) ls rest)) : W p l e R s m args below meth c H locs cells slots Q (F0 m pc ls (v :: .ref a :: rest)) := by
  subst hfs
  have hts := C0.2.2.2.2
  have hown := C0.2.2.2.1
  have hap := va_apart (own := own) hts hin ty0 hty hnm hK hc
  have he : ((a, .inr (ci, fs)) :: ws : va_W)[0]? = some (a, .inr (ci, fs)) := rfl
  obtain ⟨r, h1, cell, q1, q2, q3, q4⟩ := hP 0 _ he
  have hr : r = (C, T, N) := Option.some.inj (h1.symm.trans hc)
  subst hr
  obtain ⟨hS, hfc, kC, hkC, hkind⟩ := hK.1 ci _ hc
  obtain ⟨cf, kf, fi, f, hi, hsl⟩ := hS k hk
  have hlay := hts _ (hin _ (u_in_lay hk))
  unfold u_lay at hlay
  rw [if_neg (by rw [hfin]; decide)] at hlay
  have hst := (u_facts hfc hkC (u_lays hts hin hk) hi).1
  have h6 := u_store hfc hkC hkind hlay hi (hty k hk) hn hfit
  refine W.putK C0.1 C0.2.1 (f := f) ⟨hown, hts _ hlink, ⟨_, _, _, hsame ▸ hi⟩, hst⟩ (by rw [q2]; exact h6) q1 q3 (by rw [hsl]; exact k2_hasslot (q4 k hk)) rfl rfl hdg fun H' e1 e2 e3 => ?_
  rw [hsl] at e1 ⊢
  exact kk H' _ (hP.set hD he ⟨_, hc, t_OB.to (V := updV (vp_V fs) k v) ⟨_, e1, q2, q3, t_set q4 hap hk v⟩ (fun j _ => vp_updV_set hl v j)⟩ e3) (hD.set he) (hS0.put e2 e3 (hD.2 0 _ he)) e2
/-- a final field of it -/
theorem y_putF (C0 : CallFix p m c cc nL s args lwT own) (hin2 : meth.name = "<init>") (hK : va_K D vwCl (xT y) s) {fs : List Value} {ci N index : Nat} {ref C : String} {T : u_T} (hP : va_P D vwCl ((a, .inr (ci, fs)) :: ws) H) (hD : va_D A ((a, .inr (ci, fs)) :: ws)) (hS0 : va_S A H0 H locs) (hin : ∀ w ∈ u_ws C T N, w ∈ lwT) {ty0 : Nat → FieldType} (hty : ∀ k, k < N → parseFieldDescriptor (T k).2.2.1 = some (ty0 k)) (hnm : ∀ a, a < N → ∀ b, b < N → a ≠ b → (T a).2.1 ≠ (T b).2.1) (hc : vwCl[ci]? = some (C, T, N)) (k : Nat) (hk : k < N) (hlink : Cond.fieldLink own index ref (T k).2.1 (T k).2.2.1 ∈ lwT) (hsame : (T k).1 = ref) (hfin : (T k).2.2.2 = true) (hdecl : (T k).1 = own) {v : Value} (hn : narrow (ty0 k) v = v) (hfit : fits (ty0 k) v = true) (hl : k < fs.length) {fs' : List Value} (hfs : fs.set k v = fs')
    (hdg : decode cc pc = .ok (.putfield index, 3)) (kk : ∀ (H1 : Heap) (locs1 : List Loc), va_P D vwCl ((a, .inr (ci, fs')) :: ws) H1 → va_D A ((a, .inr (ci, fs')) :: ws) → va_S A H0 H1 locs1 → H1.size = H.size → W p l e R s m args below meth c H1 locs1 cells slots Q (F0 m (pc + 3) ls rest)) : W p l e R s m args below meth c H locs cells slots Q (F0 m pc ls (v :: .ref a :: rest)) := by
  subst hfs
  have hts := C0.2.2.2.2
  have hown := C0.2.2.2.1
  have hap := va_apart (own := own) hts hin ty0 hty hnm hK hc
  have he : ((a, .inr (ci, fs)) :: ws : va_W)[0]? = some (a, .inr (ci, fs)) := rfl
  obtain ⟨r, h1, cell, q1, q2, q3, q4⟩ := hP 0 _ he
  have hr : r = (C, T, N) := Option.some.inj (h1.symm.trans hc)
  subst hr
  obtain ⟨hS, hfc, kC, hkC, hkind⟩ := hK.1 ci _ hc
  obtain ⟨cf, kf, fi, f, hi, hsl⟩ := hS k hk
  have hlay := hts _ (hin _ (u_in_lay hk))
  unfold u_lay at hlay
  rw [if_pos hfin] at hlay
  have hst := (u_facts hfc hkC (u_lays hts hin hk) hi).1
  have hcf : m.cls = cf := by
    obtain ⟨_, _, c', _, _, _, -, -, hf', -, -, -, hown2, -⟩ := Cond.laysFinal_spec hlay
    have e1 : c' = cf := by have := hi.symm.trans hf'; simp at this; exact this.1.symm
    rw [hdecl] at hown2
    rw [← e1]; exact Option.some.inj (hown.symm.trans hown2)
  have h6 := u_fits hfc hkC hkind (Or.inr hlay) hi (hty k hk) hn hfit
  refine W.putFinK C0.1 C0.2.1 hown (hts _ hlink) (hsame ▸ hi) hst hcf hin2 (by rw [q2]; exact h6) q1 q3 (by rw [hsl]; exact k2_hasslot (q4 k hk)) rfl rfl hdg fun H' e1 e2 e3 => ?_
  rw [hsl] at e1 ⊢
  exact kk H' _ (hP.set hD he ⟨_, hc, t_OB.to (V := updV (vp_V fs) k v) ⟨_, e1, q2, q3, t_set q4 hap hk v⟩ (fun j _ => vp_updV_set hl v j)⟩ e3) (hD.set he) (hS0.put e2 e3 (hD.2 0 _ he)) e2
theorem y_astq (hexec : p.tables.exec = Jvm.exec) (hb : c.code = cc) (hK : va_K D vwCl (xT y) s) (hP : va_P D vwCl ws H) (hD : va_D A ws) (hS : va_S A H0 H locs) (q0 t0 qk ci : Nat) {cA : ClassId} {r : vw_C} {n v : Nat} {vs : List Value} {f : Nat → Option Nat} (ha : ws[q0]? = some (a, .inl (cA, n, .inr (.inr (.inr (.inr f)))))) (ht : (xT y)[t0]? = some (cA, .object r.1)) (hv : ws[qk]? = some (v, .inr (ci, vs))) (hc : vwCl[ci]? = some r) {i : Int32} (hin : vp_in i n) (hdg : decode cc pc = .ok (.aastore, 1))
    (kk : ∀ (H1 : Heap) (locs1 : List Loc), va_P D vwCl (ws.set q0 (a, .inl (cA, n, .inr (.inr (.inr (.inr (va_up f i.toNatClampNeg (some v)))))))) H1 → va_D A (ws.set q0 (a, .inl (cA, n, .inr (.inr (.inr (.inr (va_up f i.toNatClampNeg (some v)))))))) → va_S A H0 H1 locs1 → H1.size = H.size → W p l e R s m args below meth c H1 locs1 cells slots Q (F0 m (pc + 1) ls rest)) : W p l e R s m args below meth c H locs cells slots Q (F0 m pc ls (.ref v :: .int i :: .ref a :: rest)) := by
  have hlt : i.toNatClampNeg < n := Nat.not_le.mp fun q => hin (Or.inr q)
  have h0 : ¬ i < 0 := fun q => hin (Or.inl q)
  obtain ⟨r', hr', cellV, g1, g2, g3, -⟩ := hP qk _ hv
  have hcls := (hK.1 ci r hc).2
  obtain ⟨kA, comp, k1, k2, k3, -⟩ := (hK.2 t0 _ ht).2
  have hcomp : comp = D.1 ci := Option.some.inj (k3.symm.trans hcls.1)
  subst hcomp
  obtain ⟨kC, hkC, -⟩ := hcls.2
  refine W.aast hexec hb (hP q0 _ ha) (fun q h => by cases h) (fun h => by cases h) k1 k2 rfl hkC ⟨h0, by show _ < (arrV _ _ _).slots.size; rw [arrV_size]; exact hlt⟩ g1 (fun q h => by rw [g3] at h; cases h) (by rw [g2]; exact hkC) (by rw [g2]; exact va_assign hcls) rfl rfl hdg fun H1 e z oq => ?_
  refine kk H1 _ (hP.set hD ha ?_ oq) (hD.set ha) (hS.put z oq (hD.2 q0 _ ha)) z
  show H1[a]? = some (vp_cell _ _)
  rw [e]
  rw [vp_cell_q, vp_cell_q, arrV_store]
  congr 2
  funext q
  by_cases hq : q = i.toNatClampNeg
  · subst hq
    simp [updV, va_up, va_rf]
  · simp [updV, va_up, hq]
theorem y_iast (hexec : p.tables.exec = Jvm.exec) (hb : c.code = cc) (hK : va_K D vwCl (xT y) s) (hP : va_P D vwCl ws H) (hD : va_D A ws) (hS : va_S A H0 H locs) (q0 t0 : Nat) {cA : ClassId} {n : Nat} {f : Nat → Int32} (ha : ws[q0]? = some (a, .inl (cA, n, .inl f))) (ht : (xT y)[t0]? = some (cA, .int)) {i : Int32} {x : Int32} (hin : vp_in i n) (hdg : decode cc pc = .ok (.iastore, 1))
    (kk : ∀ (H1 : Heap) (locs1 : List Loc), va_P D vwCl (ws.set q0 (a, .inl (cA, n, .inl (upd f i.toNatClampNeg x)))) H1 → va_D A (ws.set q0 (a, .inl (cA, n, .inl (upd f i.toNatClampNeg x)))) → va_S A H0 H1 locs1 → H1.size = H.size → W p l e R s m args below meth c H1 locs1 cells slots Q (F0 m (pc + 1) ls rest)) : W p l e R s m args below meth c H locs cells slots Q (F0 m pc ls (.int x :: .int i :: .ref a :: rest)) := by
  refine W.iast hexec hb (hP q0 _ ha) ((hK.2 t0 _ ht).1 n (fun j => .int (f j))) (fun q => by cases q) (by show ¬ (i < 0 ∨ (arrV _ _ _).slots.size ≤ _); rw [arrV_size]; exact hin) rfl rfl hdg fun H1 e z oq => ?_
  refine kk H1 _ (hP.set hD ha ?_ oq) (hD.set ha) (hS.put z oq (hD.2 q0 _ ha)) z
  show H1[a]? = some (vp_cell _ _)
  rw [e]
  rw [vp_cell_i, vp_cell_i, arrV_store]
  congr 2
  funext q
  by_cases hq : q = i.toNatClampNeg
  · subst hq
    simp [updV, upd]
  · simp [updV, upd, hq]
end XCU
/-- cells one behind the other -/
def Ctg (w : va_W) (q : Nat) : Prop := ∀ (k : Nat) (x : Nat × va_E), w[k]? = some x → x.1 = q + k
theorem Ctg.D {w : va_W} {q : Nat} (h : Ctg w q) : va_D (XF q (q + 1)) w := ⟨fun i j x z hi hj hxz => by
    have h1 := h i x hi
    have h2 := h j z hj
    omega, fun k x hk => by
    have h1 := h k x hk
    unfold XF
    omega⟩
theorem Ctg.nil {q : Nat} : Ctg [] q := fun k x h => by simp at h
theorem Ctg.cons {a : Nat} {e : va_E} {w : va_W} {q : Nat} (ha : a = q) (h : Ctg w (q + 1)) : Ctg ((a, e) :: w) q := by
  intro k x hx
  cases k with
  | zero =>
    cases (Option.some.inj hx : (a, e) = x)
    exact ha
  | succ k =>
    have := h k x hx
    omega
theorem Ctg.app {w1 w2 : va_W} {q n : Nat} (h1 : Ctg w1 q) (hn : w1.length = n) (h2 : Ctg w2 (q + n)) : Ctg (w1 ++ w2) q := by
  intro k x hx
  by_cases hk : k < w1.length
  · rw [List.getElem?_append_left hk] at hx
    exact h1 k x hx
  · rw [List.getElem?_append_right (by omega)] at hx
    have := h2 _ x hx
    omega
theorem Ctg.map {f : Nat → va_E} {n q : Nat} : Ctg ((List.range n).map (fun i => (q + i, f i))) q := by
  intro k x hx
  simp only [List.getElem?_map, Option.map_eq_some_iff] at hx
  obtain ⟨i, hi, rfl⟩ := hx
  have hk : k < n := by
    have := (List.getElem?_eq_some_iff.mp hi).1
    simpa using this
  rw [List.getElem?_range hk] at hi
  cases hi
  rfl
def zT : List Value := [.int 0, .int 0, .int 0, .int 0, .int 0, .int 0, .int 0, .int 0, .int 0, .int 0, .int 0, .int 0, .int 0, .int 0]
abbrev rfA (f : Nat → Option Nat) : (Nat → Int32) ⊕ (Nat → Int64) ⊕ (Nat → UInt32) ⊕ (Nat → UInt64) ⊕ (Nat → Option Nat) := .inr (.inr (.inr (.inr f)))
def wTr (h n : Nat) : va_W := (List.range n).map (fun i => (h + 2 + i, .inr (5, zT)))
def wBox (y : Nat → ClassId) (h : Nat) : va_W := (h, .inr (0, [.int 6, .int 6, .int 12, .int 50, .int 0, .ref (h + 1)])) :: (h + 1, .inl (y 3, 12, rfA (fun i => some (h + 2 + i)))) :: wTr h 12
def wBoxes (y : Nat → ClassId) (h n : Nat) : va_W := (List.range n).flatMap (fun i => wBox y (h + 2 + 14 * i))
def wFind (y : Nat → ClassId) (h : Nat) : va_W := [(h, .inr (1, [.ref (h + 1), .int 0, .int 0, .int 0, .int 0, .int 0, .int 0, .int 0, .int 0])), (h + 1, .inl (y 0, 100, .inl (fun _ => 0)))]
def wHist (y : Nat → ClassId) (h : Nat) : va_W := (h, .inr (2, [.int 0, .int 0, .ref (h + 1)])) :: (h + 1, .inl (y 2, 8, rfA (fun i => some (h + 2 + 14 * i)))) :: wBoxes y h 8
def wText (y : Nat → ClassId) (h : Nat) : va_W := (h, .inr (4, [.int 0, .int 0, .ref (h + 1), .ref (h + 15), .int 0, .int 0])) :: (wBox y (h + 1) ++ [(h + 15, .inl (y 1, 100, .inl (fun _ => 0)))])
def wPack (y : Nat → ClassId) (h : Nat) : va_W := (h, .inr (3, [.ref (h + 1), .ref (h + 2), .ref (h + 3), .ref (h + 17), .ref (h + 18), .ref (h + 19)])) :: (((([(h + 1, .inl (y 0, 12, .inl (fun _ => 0)))] ++ [(h + 2, .inl (y 0, 4, .inl (fun _ => 0)))]) ++ wBox y (h + 3)) ++ [(h + 17, .inl (y 0, 12, .inl (fun _ => 0)))]) ++ [(h + 18, .inl (y 0, 4, .inl (fun _ => 0)))]) ++ wFind y (h + 19)
def wMain (y : Nat → ClassId) (h : Nat) : va_W := (h, .inr (6, [.ref (h + 1), .ref (h + 15), .ref (h + 129), .ref (h + 145), .ref (h + 147)])) :: ((((wBox y (h + 1) ++ wHist y (h + 15)) ++ wText y (h + 129)) ++ wFind y (h + 145)) ++ wPack y (h + 147))
theorem lBox {y : Nat → ClassId} {h : Nat} : (wBox y h).length = 14 := by simp [wBox, wTr]
theorem lBoxes {y : Nat → ClassId} {h n : Nat} : (wBoxes y h n).length = 14 * n := by
  induction n with
  | zero => simp [wBoxes]
  | succ n ih =>
    simp only [wBoxes, List.range_succ, List.flatMap_append, List.length_append] at ih ⊢
    simp only [List.flatMap_cons, List.flatMap_nil, List.append_nil, lBox]
    omega
theorem gBox {y : Nat → ClassId} {h : Nat} : Ctg (wBox y h) h := Ctg.cons rfl (Ctg.cons rfl Ctg.map)
theorem gBoxes {y : Nat → ClassId} {h n : Nat} : Ctg (wBoxes y h n) (h + 2) := by
  induction n with
  | zero => exact Ctg.nil
  | succ n ih =>
    have h2 := Ctg.app ih lBoxes (gBox (y := y) (h := h + 2 + 14 * n))
    simpa [wBoxes, List.range_succ] using h2
theorem gFind {y : Nat → ClassId} {h : Nat} : Ctg (wFind y h) h := Ctg.cons rfl (Ctg.cons rfl Ctg.nil)
theorem gHist {y : Nat → ClassId} {h : Nat} : Ctg (wHist y h) h := Ctg.cons rfl (Ctg.cons rfl gBoxes)
theorem gText {y : Nat → ClassId} {h : Nat} : Ctg (wText y h) h := Ctg.cons rfl (Ctg.app gBox lBox (Ctg.cons (by omega) Ctg.nil))
theorem gPack {y : Nat → ClassId} {h : Nat} : Ctg (wPack y h) h :=
  Ctg.cons rfl (Ctg.app (n := 18) (Ctg.app (n := 17) (Ctg.app (n := 16) (Ctg.app (n := 2) (Ctg.app (n := 1) (Ctg.cons rfl Ctg.nil) rfl (Ctg.cons (by omega) Ctg.nil)) rfl (by simpa [Nat.add_assoc] using gBox (y := y) (h := h + 3))) (by simp [lBox]) (Ctg.cons (by omega) Ctg.nil)) (by simp [lBox]) (Ctg.cons (by omega) Ctg.nil)) (by simp [lBox]) (by simpa [Nat.add_assoc] using gFind (y := y) (h := h + 19)))
def wX5_init : List Cond := .code yX5_init cX5_init 1 none :: lwT
def rX5_init : Room := { frames := 1, cells := 0, slots := 0, locals := 12 }
set_option maxRecDepth 100000 in
set_option maxHeartbeats 4000000 in
theorem nX5_init (l : Launch) (D : va_G) (y : Nat → ClassId) (h : Nat) : Met l yX5_init wX5_init rX5_init (va_Pc [.ref h] (XCp D y h (h + 1) (.inr (5, zT)))) (XCq D h (h + 1) 0 ([(h, .inr (5, zT))])) 0 0 (XF h (h + 1)) := by
  refine y_met (bytes := cX5_init) (maxL := 1) (own := RX5) (by decide) rfl rfl (Nat.le_of_ble_eq_true rfl) (fun p e s m below meth c ls C0 hK hlocks hr hin hz hP hD hS hA hl => ?_)
  refine lv_aload_n (pc := 0) C0.1 C0.2.1 dX5_init_0 rfl (lv_at hl 0 rfl) ?_
  refine W.objInit C0.1 C0.2.1 C0.2.2.2.1 (C0.2.2.2.2 _ wm_X5_1) (C0.2.2.2.2 _ wi_obj) (C0.2.2.2.2 _ wc_obj) rfl (by rw [C0.2.2.1]; exact hl.1) rfl dX5_init_1 (Nat.le_of_ble_eq_true rfl) (Nat.le_of_ble_eq_true rfl) ?_
  refine W.eq (g2 := F0 m 4 ls []) rfl ?_
  refine W.widen (k := 0) (n := 0) (Nat.le_of_ble_eq_true rfl) (Nat.le_of_ble_eq_true rfl) ?_
  exact y_vret (pc := 4) C0 hlocks hr hP hS (by omega) dX5_init_4
def wX1_init : List Cond := .code yX1_init cX1_init 1 none :: lwT
def rX1_init : Room := { frames := 1, cells := 1, slots := 100, locals := 12 }
set_option maxRecDepth 100000 in
set_option maxHeartbeats 4000000 in
theorem nX1_init (l : Launch) (D : va_G) (y : Nat → ClassId) (h : Nat) : Met l yX1_init wX1_init rX1_init (va_Pc [.ref h] (XCp D y h (h + 1) (.inr (1, [.null, .int 0, .int 0, .int 0, .int 0, .int 0, .int 0, .int 0, .int 0])))) (XCq D h (h + 1) 1 (wFind y h)) 1 100 (XF h (h + 1)) := by
  refine y_met (bytes := cX1_init) (maxL := 1) (own := RX1) (by decide) rfl rfl (Nat.le_of_ble_eq_true rfl) (fun p e s m below meth c ls C0 hK hlocks hr hin hz hP hD hS hA hl => ?_)
  refine lv_aload_n (pc := 0) C0.1 C0.2.1 dX1_init_0 rfl (lv_at hl 0 rfl) ?_
  refine W.objInit C0.1 C0.2.1 C0.2.2.2.1 (C0.2.2.2.2 _ wm_X1_3) (C0.2.2.2.2 _ wi_obj) (C0.2.2.2.2 _ wc_obj) rfl (by rw [C0.2.2.1]; exact hl.1) rfl dX1_init_1 (Nat.le_of_ble_eq_true rfl) (Nat.le_of_ble_eq_true rfl) ?_
  refine W.eq (g2 := F0 m 4 ls []) rfl ?_
  refine lv_aload_n (pc := 4) C0.1 C0.2.1 dX1_init_4 rfl (lv_at hl 0 rfl) ?_
  refine lv_bipush (v := 100) (pc := 5) C0.1 C0.2.1 dX1_init_5 (by decide) ?_
  refine y_newA (pc := 7) (atype := .int) (t := 0) (ty := .int) (a0 := (100, .inl (fun _ => 0))) (N' := 100) C0 rfl (by intro C hC; cases hC) wa_int rfl hK.1 hP hD hS hA (fun _ => rfl) (by decide) (by decide) (by decide) (Nat.le_of_ble_eq_true rfl) (Nat.le_of_ble_eq_true rfl) (q := h + 1) (by omega) dX1_init_7 (fun H hP hD hS hz => ?_)
  have hP : va_P D vwCl ((h, .inr (1, [.null, .int 0, .int 0, .int 0, .int 0, .int 0, .int 0, .int 0, .int 0])) :: [(h + 1, .inl (y 0, 100, .inl (fun _ => 0)))]) H := hP
  have hD : va_D (XF h (h + 1)) ((h, .inr (1, [.null, .int 0, .int 0, .int 0, .int 0, .int 0, .int 0, .int 0, .int 0])) :: [(h + 1, .inl (y 0, 100, .inl (fun _ => 0)))]) := hD
  refine y_putF (pc := 9) C0 hin hK.1 hP hD hS inX1 tyX1_ok nmX1 rfl 0 (by decide) wf_X1_9 rfl rfl rfl rfl rfl (Nat.le_of_ble_eq_true rfl) rfl dX1_init_9 (fun H locs hP hD hS hz1 => ?_)
  have hz := hz1.trans hz
  have hP : va_P D vwCl (wFind y h) H := hP
  have hD : va_D (XF h (h + 1)) (wFind y h) := hD
  refine W.widen (k := 1) (n := 100) (Nat.le_of_ble_eq_true rfl) (Nat.le_of_ble_eq_true rfl) ?_
  exact y_vret (pc := 12) C0 hlocks hr hP hS (by omega) dX1_init_12
def wX0_init : List Cond := .code yX0_init cX0_init 2 none :: lwT
def rX0_init : Room := { frames := 2, cells := 13, slots := 180, locals := 32 }
set_option maxRecDepth 100000 in
set_option maxHeartbeats 4000000 in
theorem nX0_init (l : Launch) (D : va_G) (y : Nat → ClassId) (h : Nat) : Met l yX0_init wX0_init rX0_init (va_Pc [.ref h] (XCp D y h (h + 1) (.inr (0, [.int 0, .int 0, .int 0, .int 0, .int 0, .null])))) (XCq D h (h + 1) 13 (wBox y h)) 13 180 (XF h (h + 1)) := by
  refine y_met (bytes := cX0_init) (maxL := 2) (own := RX0) (by decide) rfl rfl (Nat.le_of_ble_eq_true rfl) (fun p e s m below meth c ls C0 hK hlocks hr hin hz hP hD hS hA hl => ?_)
  refine lv_aload_n (pc := 0) C0.1 C0.2.1 dX0_init_0 rfl (lv_at hl 0 rfl) ?_
  refine W.objInit C0.1 C0.2.1 C0.2.2.2.1 (C0.2.2.2.2 _ wm_X0_3) (C0.2.2.2.2 _ wi_obj) (C0.2.2.2.2 _ wc_obj) rfl (by rw [C0.2.2.1]; exact hl.1) rfl dX0_init_1 (Nat.le_of_ble_eq_true rfl) (Nat.le_of_ble_eq_true rfl) ?_
  refine W.eq (g2 := F0 m 4 ls []) rfl ?_
  refine lv_aload_n (pc := 4) C0.1 C0.2.1 dX0_init_4 rfl (lv_at hl 0 rfl) ?_
  refine lv_bipush (v := 6) (pc := 5) C0.1 C0.2.1 dX0_init_5 (by decide) ?_
  refine y_put (pc := 7) C0 hK.1 hP hD hS inX0 tyX0_ok nmX0 rfl 0 (by decide) wf_X0_9 rfl rfl rfl rfl (Nat.le_of_ble_eq_true rfl) rfl dX0_init_7 (fun H locs hP hD hS hz1 => ?_)
  have hz := hz1.trans hz
  have hP : va_P D vwCl ((h, .inr (0, [.int 6, .int 0, .int 0, .int 0, .int 0, .null])) :: []) H := hP
  have hD : va_D (XF h (h + 1)) ((h, .inr (0, [.int 6, .int 0, .int 0, .int 0, .int 0, .null])) :: []) := hD
  refine lv_aload_n (pc := 10) C0.1 C0.2.1 dX0_init_10 rfl (lv_at hl 0 rfl) ?_
  refine lv_bipush (v := 6) (pc := 11) C0.1 C0.2.1 dX0_init_11 (by decide) ?_
  refine y_put (pc := 13) C0 hK.1 hP hD hS inX0 tyX0_ok nmX0 rfl 1 (by decide) wf_X0_15 rfl rfl rfl rfl (Nat.le_of_ble_eq_true rfl) rfl dX0_init_13 (fun H locs hP hD hS hz1 => ?_)
  have hz := hz1.trans hz
  have hP : va_P D vwCl ((h, .inr (0, [.int 6, .int 6, .int 0, .int 0, .int 0, .null])) :: []) H := hP
  have hD : va_D (XF h (h + 1)) ((h, .inr (0, [.int 6, .int 6, .int 0, .int 0, .int 0, .null])) :: []) := hD
  refine lv_aload_n (pc := 16) C0.1 C0.2.1 dX0_init_16 rfl (lv_at hl 0 rfl) ?_
  refine lv_bipush (v := 12) (pc := 17) C0.1 C0.2.1 dX0_init_17 (by decide) ?_
  refine y_put (pc := 19) C0 hK.1 hP hD hS inX0 tyX0_ok nmX0 rfl 2 (by decide) wf_X0_18 rfl rfl rfl rfl (Nat.le_of_ble_eq_true rfl) rfl dX0_init_19 (fun H locs hP hD hS hz1 => ?_)
  have hz := hz1.trans hz
  have hP : va_P D vwCl ((h, .inr (0, [.int 6, .int 6, .int 12, .int 0, .int 0, .null])) :: []) H := hP
  have hD : va_D (XF h (h + 1)) ((h, .inr (0, [.int 6, .int 6, .int 12, .int 0, .int 0, .null])) :: []) := hD
  refine lv_aload_n (pc := 22) C0.1 C0.2.1 dX0_init_22 rfl (lv_at hl 0 rfl) ?_
  refine lv_bipush (v := 50) (pc := 23) C0.1 C0.2.1 dX0_init_23 (by decide) ?_
  refine y_put (pc := 25) C0 hK.1 hP hD hS inX0 tyX0_ok nmX0 rfl 3 (by decide) wf_X0_21 rfl rfl rfl rfl (Nat.le_of_ble_eq_true rfl) rfl dX0_init_25 (fun H locs hP hD hS hz1 => ?_)
  have hz := hz1.trans hz
  have hP : va_P D vwCl ((h, .inr (0, [.int 6, .int 6, .int 12, .int 50, .int 0, .null])) :: []) H := hP
  have hD : va_D (XF h (h + 1)) ((h, .inr (0, [.int 6, .int 6, .int 12, .int 50, .int 0, .null])) :: []) := hD
  refine lv_aload_n (pc := 28) C0.1 C0.2.1 dX0_init_28 rfl (lv_at hl 0 rfl) ?_
  refine lv_bipush (v := 12) (pc := 29) C0.1 C0.2.1 dX0_init_29 (by decide) ?_
  refine y_newQ (pc := 31) (t := 3) (N' := 12) C0 wl_X0_24 hK.2.2.1 rfl hK.1 hP hD hS hA (by decide) (by decide) (by decide) (Nat.le_of_ble_eq_true rfl) (Nat.le_of_ble_eq_true rfl) (q := h + 1) (by omega) dX0_init_31 (fun H hP hD hS hz => ?_)
  have hP : va_P D vwCl ((h, .inr (0, [.int 6, .int 6, .int 12, .int 50, .int 0, .null])) :: [(h + 1, .inl (y 3, 12, rfA (fun _ => none)))]) H := hP
  have hD : va_D (XF h (h + 1)) ((h, .inr (0, [.int 6, .int 6, .int 12, .int 50, .int 0, .null])) :: [(h + 1, .inl (y 3, 12, rfA (fun _ => none)))]) := hD
  refine y_putF (pc := 34) C0 hin hK.1 hP hD hS inX0 tyX0_ok nmX0 rfl 5 (by decide) wf_X0_26 rfl rfl rfl rfl rfl (Nat.le_of_ble_eq_true rfl) rfl dX0_init_34 (fun H locs hP hD hS hz1 => ?_)
  have hz := hz1.trans hz
  have hP : va_P D vwCl ((h, .inr (0, [.int 6, .int 6, .int 12, .int 50, .int 0, .ref (h + 1)])) :: [(h + 1, .inl (y 3, 12, rfA (fun _ => none)))]) H := hP
  have hD : va_D (XF h (h + 1)) ((h, .inr (0, [.int 6, .int 6, .int 12, .int 50, .int 0, .ref (h + 1)])) :: [(h + 1, .inl (y 3, 12, rfA (fun _ => none)))]) := hD
  refine lv_iconst (v := 0) (pc := 37) C0.1 C0.2.1 dX0_init_37 (by decide) ?_
  refine lv_istore_n (pc := 38) (lv' := [(1, .int (nI 0)), (0, .ref h)]) C0.1 C0.2.1 dX0_init_38 rfl hl (by decide) (by rw [nI_0]; rfl) (fun ls hl => ?_)
  have key : ∀ (k i : Nat), i + k = 12 → ∀ (H : Heap) (locs : List Loc) (ls : Array Slot), H.size = h + 2 + i → va_P D vwCl ((h, .inr (0, [.int 6, .int 6, .int 12, .int 50, .int 0, .ref (h + 1)])) :: (h + 1, .inl (y 3, 12, rfA (fun j => if j < i then some (h + 2 + j) else none))) :: wTr h i) H → va_D (XF h (h + 1)) ((h, .inr (0, [.int 6, .int 6, .int 12, .int 50, .int 0, .ref (h + 1)])) :: (h + 1, .inl (y 3, 12, rfA (fun j => if j < i then some (h + 2 + j) else none))) :: wTr h i) → va_S (XF h (h + 1)) s.heap H locs → lv_has ls 2 [(1, .int (nI i)), (0, .ref h)] → W p l e (headSpec wX0_init rX0_init).room s m [Value.ref h].toArray below meth c H locs (1 + i) (12 + 14 * i) (MQ below (XCq D h (h + 1) 13 (wBox y h)) [Value.ref h].toArray s 13 180 (XF h (h + 1))) (F0 m 39 ls []) := by
    intro k
    induction k with
    | zero =>
      intro i hi H locs ls hz hP hD hS hl
      have hi : i = 12 := by omega
      subst hi
      refine lv_iload_n (pc := 39) C0.1 C0.2.1 dX0_init_39 rfl (lv_at hl 0 rfl) ?_
      refine lv_bipush (v := 12) (pc := 40) C0.1 C0.2.1 dX0_init_40 (by decide) ?_
      refine lv_icmp_ge (tgt := 64) (pc := 42) C0.1 C0.2.1 dX0_init_42 (by decide) (fun hc => ?_) (fun hc => absurd (by decide +kernel) hc)
      refine W.widen (k := 13) (n := 180) (by omega) (by omega) ?_
      refine y_vret (pc := 64) C0 hlocks hr ?_ hS (by omega) dX0_init_64
      intro k x hx
      have hk : k = 0 ∨ k = 1 ∨ ∃ j, k = j + 2 := by
        match k with
        | 0 => exact Or.inl rfl
        | 1 => exact Or.inr (Or.inl rfl)
        | j + 2 => exact Or.inr (Or.inr ⟨j, rfl⟩)
      rcases hk with rfl | rfl | ⟨j, rfl⟩
      · exact hP 0 x hx
      · cases hx
        have h1 := hP 1 _ rfl
        show H[h + 1]? = some (vp_cell _ _)
        refine (show H[h + 1]? = some (vp_cell _ _) from h1).trans (congrArg some ?_)
        rw [vp_cell_q, vp_cell_q]
        exact arrV_congr (fun j hj => by simp [hj])
      · exact hP (j + 2) x hx
    | succ k ih =>
      intro i hi H locs ls hz hP hD hS hl
      refine lv_iload_n (pc := 39) C0.1 C0.2.1 dX0_init_39 rfl (lv_at hl 0 rfl) ?_
      refine lv_bipush (v := 12) (pc := 40) C0.1 C0.2.1 dX0_init_40 (by decide) ?_
      refine lv_icmp_ge (tgt := 64) (pc := 42) C0.1 C0.2.1 dX0_init_42 (by decide) (fun hc => absurd hc (nI_ge (show i < 12 by omega) (by decide))) (fun hc => ?_)
      refine lv_aload_n (pc := 45) C0.1 C0.2.1 dX0_init_45 rfl (lv_at hl 1 rfl) ?_
      refine va_get (pc := 46) (v := .ref (h + 1)) C0.1 C0.2.1 C0.2.2.2.2 inX0 C0.2.2.2.1 hK.1 hP 0 rfl rfl 5 (by decide) (C0.2.2.2.2 _ wf_X0_26) (fun x h => h) rfl dX0_init_46 ?_
      refine lv_iload_n (pc := 49) C0.1 C0.2.1 dX0_init_49 rfl (lv_at hl 0 rfl) ?_
      refine y_new (pc := 50) (ci := 5) (fs := zT) (T := TX5) (N := 14) C0 inX5 tyX5_ok wl_X0_24 wo_X5 wn_X5 hK.1 hP hD hS hA rfl (by decide +kernel) (show 1 + i + 1 ≤ 13 by omega) (show 12 + 14 * i + 14 ≤ 180 by omega) (q := h + 2 + i) hz dX0_init_50 (fun H hP hD hS hz => ?_)
      refine lv_dup (pc := 53) C0.1 C0.2.1 dX0_init_53 rfl ?_
      refine y_ctor (pc := 54) (n := 0) (ms := 0) (w1 := [(h + 2 + i, .inr (5, zT))]) (q := h + 2 + i) hz hP hD hS hA (y_runN C0 hK hl.1 (q := h + 2 + i) hz hP (nX5_init l D y (h + 2 + i)) rfl wc_X5_init hK.2.1.1 wi_X5_init wn_X5 rfl ⟨rfl, rfl⟩ hdc_X5_init ⟨Nat.le_of_ble_eq_true rfl, Nat.le_of_ble_eq_true rfl⟩ (Nat.le_of_ble_eq_true rfl) dX0_init_54 ⟨show 1 + i + 1 + 0 ≤ 13 by omega, show 12 + 14 * i + 14 + 0 ≤ 180 by omega⟩) (Ctg.D (Ctg.cons rfl Ctg.nil)) (fun H locs hP hD hS hz => ?_)
      obtain ⟨qk, hqk⟩ := List.getElem?_of_mem (show ((h + 2 + i, .inr (5, zT)) : Nat × va_E) ∈ ((h, .inr (0, [.int 6, .int 6, .int 12, .int 50, .int 0, .ref (h + 1)])) :: (h + 1, .inl (y 3, 12, rfA (fun j => if j < i then some (h + 2 + j) else none))) :: wTr h i : va_W) ++ [(h + 2 + i, .inr (5, zT))] from List.mem_append_right _ List.mem_cons_self)
      refine y_astq (pc := 57) (r := (RX5, TX5, 14)) C0.1 C0.2.1 hK.1 hP hD hS 1 3 qk 5 rfl rfl hqk rfl (vp_in_nI (show i < 12 by omega) (by decide)) dX0_init_57 (fun H1 locs1 hP hD hS hz1 => ?_)
      refine lv_iinc (pc := 58) (v := nI (i + 1)) (lv' := [(1, .int (nI (i + 1))), (0, .ref h)]) C0.1 C0.2.1 dX0_init_58 hl (k := 0) rfl (by rw [nI_succ]; rfl) (by decide) rfl (fun ls hl => ?_)
      refine lv_goto (tgt := 39) (pc := 61) C0.1 C0.2.1 dX0_init_61 (by decide) ?_
      have hfun : va_up (fun j => if j < i then some (h + 2 + j) else none) (nI i).toNatClampNeg (some (h + 2 + i)) = (fun j => if j < i + 1 then some (h + 2 + j) else none) := by
        rw [nI_clamp (by omega)]
        funext j
        by_cases hj : j = i
        · subst hj
          simp [va_up]
        · simp only [va_up, if_neg hj]
          by_cases hj2 : j < i
          · simp [hj2, Nat.lt_succ_of_lt hj2]
          · simp [hj2, show ¬ j < i + 1 by omega]
      have hlist : (((h, .inr (0, [.int 6, .int 6, .int 12, .int 50, .int 0, .ref (h + 1)])) :: (h + 1, .inl (y 3, 12, rfA (fun j => if j < i then some (h + 2 + j) else none))) :: wTr h i : va_W) ++ ([(h + 2 + i, .inr (5, zT))] : va_W)).set 1 (h + 1, .inl (y 3, 12, rfA (va_up (fun j => if j < i then some (h + 2 + j) else none) (nI i).toNatClampNeg (some (h + 2 + i))))) = ((h, .inr (0, [.int 6, .int 6, .int 12, .int 50, .int 0, .ref (h + 1)])) :: (h + 1, .inl (y 3, 12, rfA (fun j => if j < i + 1 then some (h + 2 + j) else none))) :: wTr h (i + 1) : va_W) := by
        rw [hfun]
        simp [wTr, List.range_succ]
      rw [hlist] at hP hD
      refine W.widen (k := 1 + (i + 1)) (n := 12 + 14 * (i + 1)) (by omega) (by omega) ?_
      exact ih (i + 1) (by omega) H1 locs1 ls (by omega) hP hD hS hl
  refine W.widen (k := 1) (n := 12) (Nat.le_of_ble_eq_true rfl) (Nat.le_of_ble_eq_true rfl) ?_
  have hfun : (fun (_ : Nat) => (none : Option Nat)) = (fun j => if j < 0 then some (h + 2 + j) else none) := by funext j; simp
  rw [hfun] at hP hD
  exact key 12 0 rfl H locs ls (by omega) hP hD hS hl
def wX2_init : List Cond := .code yX2_init cX2_init 2 none :: lwT
def rX2_init : Room := { frames := 3, cells := 113, slots := 1496, locals := 53 }
set_option maxRecDepth 100000 in
set_option maxHeartbeats 4000000 in
theorem nX2_init (l : Launch) (D : va_G) (y : Nat → ClassId) (h : Nat) : Met l yX2_init wX2_init rX2_init (va_Pc [.ref h] (XCp D y h (h + 1) (.inr (2, [.int 0, .int 0, .null])))) (XCq D h (h + 1) 113 (wHist y h)) 113 1496 (XF h (h + 1)) := by
  refine y_met (bytes := cX2_init) (maxL := 2) (own := RX2) (by decide) rfl rfl (Nat.le_of_ble_eq_true rfl) (fun p e s m below meth c ls C0 hK hlocks hr hin hz hP hD hS hA hl => ?_)
  refine lv_aload_n (pc := 0) C0.1 C0.2.1 dX2_init_0 rfl (lv_at hl 0 rfl) ?_
  refine W.objInit C0.1 C0.2.1 C0.2.2.2.1 (C0.2.2.2.2 _ wm_X2_3) (C0.2.2.2.2 _ wi_obj) (C0.2.2.2.2 _ wc_obj) rfl (by rw [C0.2.2.1]; exact hl.1) rfl dX2_init_1 (Nat.le_of_ble_eq_true rfl) (Nat.le_of_ble_eq_true rfl) ?_
  refine W.eq (g2 := F0 m 4 ls []) rfl ?_
  refine lv_aload_n (pc := 4) C0.1 C0.2.1 dX2_init_4 rfl (lv_at hl 0 rfl) ?_
  refine lv_bipush (v := 8) (pc := 5) C0.1 C0.2.1 dX2_init_5 (by decide) ?_
  refine y_newQ (pc := 7) (t := 2) (N' := 8) C0 wl_X2_9 hK.2.2.2 rfl hK.1 hP hD hS hA (by decide) (by decide) (by decide) (Nat.le_of_ble_eq_true rfl) (Nat.le_of_ble_eq_true rfl) (q := h + 1) (by omega) dX2_init_7 (fun H hP hD hS hz => ?_)
  have hP : va_P D vwCl ((h, .inr (2, [.int 0, .int 0, .null])) :: [(h + 1, .inl (y 2, 8, rfA (fun _ => none)))]) H := hP
  have hD : va_D (XF h (h + 1)) ((h, .inr (2, [.int 0, .int 0, .null])) :: [(h + 1, .inl (y 2, 8, rfA (fun _ => none)))]) := hD
  refine y_putF (pc := 10) C0 hin hK.1 hP hD hS inX2 tyX2_ok nmX2 rfl 2 (by decide) wf_X2_11 rfl rfl rfl rfl rfl (Nat.le_of_ble_eq_true rfl) rfl dX2_init_10 (fun H locs hP hD hS hz1 => ?_)
  have hz := hz1.trans hz
  have hP : va_P D vwCl ((h, .inr (2, [.int 0, .int 0, .ref (h + 1)])) :: [(h + 1, .inl (y 2, 8, rfA (fun _ => none)))]) H := hP
  have hD : va_D (XF h (h + 1)) ((h, .inr (2, [.int 0, .int 0, .ref (h + 1)])) :: [(h + 1, .inl (y 2, 8, rfA (fun _ => none)))]) := hD
  refine lv_iconst (v := 0) (pc := 13) C0.1 C0.2.1 dX2_init_13 (by decide) ?_
  refine lv_istore_n (pc := 14) (lv' := [(1, .int (nI 0)), (0, .ref h)]) C0.1 C0.2.1 dX2_init_14 rfl hl (by decide) (by rw [nI_0]; rfl) (fun ls hl => ?_)
  have key : ∀ (k i : Nat), i + k = 8 → ∀ (H : Heap) (locs : List Loc) (ls : Array Slot), H.size = h + 2 + 14 * i → va_P D vwCl ((h, .inr (2, [.int 0, .int 0, .ref (h + 1)])) :: (h + 1, .inl (y 2, 8, rfA (fun j => if j < i then some (h + 2 + 14 * j) else none))) :: wBoxes y h i) H → va_D (XF h (h + 1)) ((h, .inr (2, [.int 0, .int 0, .ref (h + 1)])) :: (h + 1, .inl (y 2, 8, rfA (fun j => if j < i then some (h + 2 + 14 * j) else none))) :: wBoxes y h i) → va_S (XF h (h + 1)) s.heap H locs → lv_has ls 2 [(1, .int (nI i)), (0, .ref h)] → W p l e (headSpec wX2_init rX2_init).room s m [Value.ref h].toArray below meth c H locs (1 + 14 * i) (8 + 186 * i) (MQ below (XCq D h (h + 1) 113 (wHist y h)) [Value.ref h].toArray s 113 1496 (XF h (h + 1))) (F0 m 15 ls []) := by
    intro k
    induction k with
    | zero =>
      intro i hi H locs ls hz hP hD hS hl
      have hi : i = 8 := by omega
      subst hi
      refine lv_iload_n (pc := 15) C0.1 C0.2.1 dX2_init_15 rfl (lv_at hl 0 rfl) ?_
      refine lv_bipush (v := 8) (pc := 16) C0.1 C0.2.1 dX2_init_16 (by decide) ?_
      refine lv_icmp_ge (tgt := 40) (pc := 18) C0.1 C0.2.1 dX2_init_18 (by decide) (fun hc => ?_) (fun hc => absurd (by decide +kernel) hc)
      refine W.widen (k := 113) (n := 1496) (by omega) (by omega) ?_
      refine y_vret (pc := 40) C0 hlocks hr ?_ hS (by omega) dX2_init_40
      intro k x hx
      have hk : k = 0 ∨ k = 1 ∨ ∃ j, k = j + 2 := by
        match k with
        | 0 => exact Or.inl rfl
        | 1 => exact Or.inr (Or.inl rfl)
        | j + 2 => exact Or.inr (Or.inr ⟨j, rfl⟩)
      rcases hk with rfl | rfl | ⟨j, rfl⟩
      · exact hP 0 x hx
      · cases hx
        have h1 := hP 1 _ rfl
        show H[h + 1]? = some (vp_cell _ _)
        refine (show H[h + 1]? = some (vp_cell _ _) from h1).trans (congrArg some ?_)
        rw [vp_cell_q, vp_cell_q]
        exact arrV_congr (fun j hj => by simp [hj])
      · exact hP (j + 2) x hx
    | succ k ih =>
      intro i hi H locs ls hz hP hD hS hl
      refine lv_iload_n (pc := 15) C0.1 C0.2.1 dX2_init_15 rfl (lv_at hl 0 rfl) ?_
      refine lv_bipush (v := 8) (pc := 16) C0.1 C0.2.1 dX2_init_16 (by decide) ?_
      refine lv_icmp_ge (tgt := 40) (pc := 18) C0.1 C0.2.1 dX2_init_18 (by decide) (fun hc => absurd hc (nI_ge (show i < 8 by omega) (by decide))) (fun hc => ?_)
      refine lv_aload_n (pc := 21) C0.1 C0.2.1 dX2_init_21 rfl (lv_at hl 1 rfl) ?_
      refine va_get (pc := 22) (v := .ref (h + 1)) C0.1 C0.2.1 C0.2.2.2.2 inX2 C0.2.2.2.1 hK.1 hP 0 rfl rfl 2 (by decide) (C0.2.2.2.2 _ wf_X2_11) (fun x h => h) rfl dX2_init_22 ?_
      refine lv_iload_n (pc := 25) C0.1 C0.2.1 dX2_init_25 rfl (lv_at hl 0 rfl) ?_
      refine y_new (pc := 26) (ci := 0) (fs := [.int 0, .int 0, .int 0, .int 0, .int 0, .null]) (T := TX0) (N := 6) C0 inX0 tyX0_ok wl_X2_9 wo_X0 wn_X0 hK.1 hP hD hS hA rfl (by decide +kernel) (show 1 + 14 * i + 1 ≤ 113 by omega) (show 8 + 186 * i + 6 ≤ 1496 by omega) (q := h + 2 + 14 * i) hz dX2_init_26 (fun H hP hD hS hz => ?_)
      refine lv_dup (pc := 29) C0.1 C0.2.1 dX2_init_29 rfl ?_
      refine y_ctor (pc := 30) (n := 13) (ms := 180) (w1 := wBox y (h + 2 + 14 * i)) (q := h + 2 + 14 * i) hz hP hD hS hA (y_run C0 hK hl.1 (q := h + 2 + 14 * i) hz hP (nX0_init l D y (h + 2 + 14 * i)) rfl wc_X0_init wm_X2_17 wi_X0_init wn_X0 rfl ⟨rfl, rfl⟩ hdc_X0_init ⟨Nat.le_of_ble_eq_true rfl, Nat.le_of_ble_eq_true rfl⟩ (Nat.le_of_ble_eq_true rfl) dX2_init_30 ⟨show 1 + 14 * i + 1 + 13 ≤ 113 by omega, show 8 + 186 * i + 6 + 180 ≤ 1496 by omega⟩) (Ctg.D gBox) (fun H locs hP hD hS hz => ?_)
      obtain ⟨qk, hqk⟩ := List.getElem?_of_mem (show ((h + 2 + 14 * i, .inr (0, [.int 6, .int 6, .int 12, .int 50, .int 0, .ref (h + 2 + 14 * i + 1)])) : Nat × va_E) ∈ ((h, .inr (2, [.int 0, .int 0, .ref (h + 1)])) :: (h + 1, .inl (y 2, 8, rfA (fun j => if j < i then some (h + 2 + 14 * j) else none))) :: wBoxes y h i : va_W) ++ wBox y (h + 2 + 14 * i) from List.mem_append_right _ List.mem_cons_self)
      refine y_astq (pc := 33) (r := (RX0, TX0, 6)) C0.1 C0.2.1 hK.1 hP hD hS 1 2 qk 0 rfl rfl hqk rfl (vp_in_nI (show i < 8 by omega) (by decide)) dX2_init_33 (fun H1 locs1 hP hD hS hz1 => ?_)
      refine lv_iinc (pc := 34) (v := nI (i + 1)) (lv' := [(1, .int (nI (i + 1))), (0, .ref h)]) C0.1 C0.2.1 dX2_init_34 hl (k := 0) rfl (by rw [nI_succ]; rfl) (by decide) rfl (fun ls hl => ?_)
      refine lv_goto (tgt := 15) (pc := 37) C0.1 C0.2.1 dX2_init_37 (by decide) ?_
      have hfun : va_up (fun j => if j < i then some (h + 2 + 14 * j) else none) (nI i).toNatClampNeg (some (h + 2 + 14 * i)) = (fun j => if j < i + 1 then some (h + 2 + 14 * j) else none) := by
        rw [nI_clamp (by omega)]
        funext j
        by_cases hj : j = i
        · subst hj
          simp [va_up]
        · simp only [va_up, if_neg hj]
          by_cases hj2 : j < i
          · simp [hj2, Nat.lt_succ_of_lt hj2]
          · simp [hj2, show ¬ j < i + 1 by omega]
      have hlist : (((h, .inr (2, [.int 0, .int 0, .ref (h + 1)])) :: (h + 1, .inl (y 2, 8, rfA (fun j => if j < i then some (h + 2 + 14 * j) else none))) :: wBoxes y h i : va_W) ++ wBox y (h + 2 + 14 * i)).set 1 (h + 1, .inl (y 2, 8, rfA (va_up (fun j => if j < i then some (h + 2 + 14 * j) else none) (nI i).toNatClampNeg (some (h + 2 + 14 * i))))) = ((h, .inr (2, [.int 0, .int 0, .ref (h + 1)])) :: (h + 1, .inl (y 2, 8, rfA (fun j => if j < i + 1 then some (h + 2 + 14 * j) else none))) :: wBoxes y h (i + 1) : va_W) := by
        rw [hfun]
        simp [wBoxes, List.range_succ]
      rw [hlist] at hP hD
      refine W.widen (k := 1 + 14 * (i + 1)) (n := 8 + 186 * (i + 1)) (by omega) (by omega) ?_
      exact ih (i + 1) (by omega) H1 locs1 ls (by omega) hP hD hS hl
  refine W.widen (k := 1) (n := 8) (Nat.le_of_ble_eq_true rfl) (Nat.le_of_ble_eq_true rfl) ?_
  have hfun : (fun (_ : Nat) => (none : Option Nat)) = (fun j => if j < 0 then some (h + 2 + 14 * j) else none) := by funext j; simp
  rw [hfun] at hP hD
  exact key 8 0 rfl H locs ls (by omega) hP hD hS hl
def wX4_init : List Cond := .code yX4_init cX4_init 1 none :: lwT
def rX4_init : Room := { frames := 3, cells := 15, slots := 286, locals := 53 }
set_option maxRecDepth 100000 in
set_option maxHeartbeats 4000000 in
theorem nX4_init (l : Launch) (D : va_G) (y : Nat → ClassId) (h : Nat) : Met l yX4_init wX4_init rX4_init (va_Pc [.ref h] (XCp D y h (h + 1) (.inr (4, [.int 0, .int 0, .null, .null, .int 0, .int 0])))) (XCq D h (h + 1) 15 (wText y h)) 15 286 (XF h (h + 1)) := by
  refine y_met (bytes := cX4_init) (maxL := 1) (own := RX4) (by decide) rfl rfl (Nat.le_of_ble_eq_true rfl) (fun p e s m below meth c ls C0 hK hlocks hr hin hz hP hD hS hA hl => ?_)
  refine lv_aload_n (pc := 0) C0.1 C0.2.1 dX4_init_0 rfl (lv_at hl 0 rfl) ?_
  refine W.objInit C0.1 C0.2.1 C0.2.2.2.1 (C0.2.2.2.2 _ wm_X4_3) (C0.2.2.2.2 _ wi_obj) (C0.2.2.2.2 _ wc_obj) rfl (by rw [C0.2.2.1]; exact hl.1) rfl dX4_init_1 (Nat.le_of_ble_eq_true rfl) (Nat.le_of_ble_eq_true rfl) ?_
  refine W.eq (g2 := F0 m 4 ls []) rfl ?_
  refine lv_aload_n (pc := 4) C0.1 C0.2.1 dX4_init_4 rfl (lv_at hl 0 rfl) ?_
  refine lv_iconst (v := 0) (pc := 5) C0.1 C0.2.1 dX4_init_5 (by decide) ?_
  refine y_put (pc := 6) C0 hK.1 hP hD hS inX4 tyX4_ok nmX4 rfl 1 (by decide) wf_X4_9 rfl rfl rfl rfl (Nat.le_of_ble_eq_true rfl) rfl dX4_init_6 (fun H locs hP hD hS hz1 => ?_)
  have hz := hz1.trans hz
  have hP : va_P D vwCl ((h, .inr (4, [.int 0, .int 0, .null, .null, .int 0, .int 0])) :: []) H := hP
  have hD : va_D (XF h (h + 1)) ((h, .inr (4, [.int 0, .int 0, .null, .null, .int 0, .int 0])) :: []) := hD
  refine lv_aload_n (pc := 9) C0.1 C0.2.1 dX4_init_9 rfl (lv_at hl 0 rfl) ?_
  refine y_new (pc := 10) (ci := 0) (fs := [.int 0, .int 0, .int 0, .int 0, .int 0, .null]) (T := TX0) (N := 6) C0 inX0 tyX0_ok wl_X4_15 wo_X0 wn_X0 hK.1 hP hD hS hA rfl (by decide +kernel) (Nat.le_of_ble_eq_true rfl) (Nat.le_of_ble_eq_true rfl) (q := h + 1) (by omega) dX4_init_10 (fun H hP hD hS hz => ?_)
  have hP : va_P D vwCl ((h, .inr (4, [.int 0, .int 0, .null, .null, .int 0, .int 0])) :: [] ++ [(h + 1, .inr (0, [.int 0, .int 0, .int 0, .int 0, .int 0, .null]))]) H := hP
  have hD : va_D (XF h (h + 1)) ((h, .inr (4, [.int 0, .int 0, .null, .null, .int 0, .int 0])) :: [] ++ [(h + 1, .inr (0, [.int 0, .int 0, .int 0, .int 0, .int 0, .null]))]) := hD
  refine lv_dup (pc := 13) C0.1 C0.2.1 dX4_init_13 rfl ?_
  refine y_ctor (pc := 14) (n := 13) (ms := 180) (w1 := wBox y (h + 1)) (q := h + 1) (by omega) hP hD hS hA (y_run C0 hK hl.1 (q := h + 1) (by omega) hP (nX0_init l D y (h + 1)) rfl wc_X0_init wm_X4_17 wi_X0_init wn_X0 rfl ⟨rfl, rfl⟩ hdc_X0_init ⟨Nat.le_of_ble_eq_true rfl, Nat.le_of_ble_eq_true rfl⟩ (Nat.le_of_ble_eq_true rfl) dX4_init_14 ⟨Nat.le_of_ble_eq_true rfl, Nat.le_of_ble_eq_true rfl⟩) (Ctg.D gBox) (fun H locs hP hD hS hz => ?_)
  have hP : va_P D vwCl ((h, .inr (4, [.int 0, .int 0, .null, .null, .int 0, .int 0])) :: wBox y (h + 1)) H := hP
  have hD : va_D (XF h (h + 1)) ((h, .inr (4, [.int 0, .int 0, .null, .null, .int 0, .int 0])) :: wBox y (h + 1)) := hD
  refine y_putF (pc := 17) C0 hin hK.1 hP hD hS inX4 tyX4_ok nmX4 rfl 2 (by decide) wf_X4_18 rfl rfl rfl rfl rfl (Nat.le_of_ble_eq_true rfl) rfl dX4_init_17 (fun H locs hP hD hS hz1 => ?_)
  have hz := hz1.trans hz
  have hP : va_P D vwCl ((h, .inr (4, [.int 0, .int 0, .ref (h + 1), .null, .int 0, .int 0])) :: wBox y (h + 1)) H := hP
  have hD : va_D (XF h (h + 1)) ((h, .inr (4, [.int 0, .int 0, .ref (h + 1), .null, .int 0, .int 0])) :: wBox y (h + 1)) := hD
  refine lv_aload_n (pc := 20) C0.1 C0.2.1 dX4_init_20 rfl (lv_at hl 0 rfl) ?_
  refine lv_bipush (v := 100) (pc := 21) C0.1 C0.2.1 dX4_init_21 (by decide) ?_
  refine y_newA (pc := 23) (atype := .char) (t := 1) (ty := .char) (a0 := (100, .inl (fun _ => 0))) (N' := 100) C0 rfl (by intro C hC; cases hC) wa_char rfl hK.1 hP hD hS hA (fun _ => rfl) (by decide) (by decide) (by decide) (Nat.le_of_ble_eq_true rfl) (Nat.le_of_ble_eq_true rfl) (q := h + 15) (by omega) dX4_init_23 (fun H hP hD hS hz => ?_)
  have hP : va_P D vwCl ((h, .inr (4, [.int 0, .int 0, .ref (h + 1), .null, .int 0, .int 0])) :: (wBox y (h + 1) ++ [(h + 15, .inl (y 1, 100, .inl (fun _ => 0)))])) H := hP
  have hD : va_D (XF h (h + 1)) ((h, .inr (4, [.int 0, .int 0, .ref (h + 1), .null, .int 0, .int 0])) :: (wBox y (h + 1) ++ [(h + 15, .inl (y 1, 100, .inl (fun _ => 0)))])) := hD
  refine y_putF (pc := 25) C0 hin hK.1 hP hD hS inX4 tyX4_ok nmX4 rfl 3 (by decide) wf_X4_22 rfl rfl rfl rfl rfl (Nat.le_of_ble_eq_true rfl) rfl dX4_init_25 (fun H locs hP hD hS hz1 => ?_)
  have hz := hz1.trans hz
  have hP : va_P D vwCl (wText y h) H := hP
  have hD : va_D (XF h (h + 1)) (wText y h) := hD
  refine W.widen (k := 15) (n := 286) (Nat.le_of_ble_eq_true rfl) (Nat.le_of_ble_eq_true rfl) ?_
  exact y_vret (pc := 28) C0 hlocks hr hP hS (by omega) dX4_init_28
def wX3_init : List Cond := .code yX3_init cX3_init 1 none :: lwT
def rX3_init : Room := { frames := 3, cells := 20, slots := 327, locals := 53 }
set_option maxRecDepth 100000 in
set_option maxHeartbeats 4000000 in
theorem nX3_init (l : Launch) (D : va_G) (y : Nat → ClassId) (h : Nat) : Met l yX3_init wX3_init rX3_init (va_Pc [.ref h] (XCp D y h (h + 1) (.inr (3, [.null, .null, .null, .null, .null, .null])))) (XCq D h (h + 1) 20 (wPack y h)) 20 327 (XF h (h + 1)) := by
  refine y_met (bytes := cX3_init) (maxL := 1) (own := RX3) (by decide) rfl rfl (Nat.le_of_ble_eq_true rfl) (fun p e s m below meth c ls C0 hK hlocks hr hin hz hP hD hS hA hl => ?_)
  refine lv_aload_n (pc := 0) C0.1 C0.2.1 dX3_init_0 rfl (lv_at hl 0 rfl) ?_
  refine W.objInit C0.1 C0.2.1 C0.2.2.2.1 (C0.2.2.2.2 _ wm_X3_3) (C0.2.2.2.2 _ wi_obj) (C0.2.2.2.2 _ wc_obj) rfl (by rw [C0.2.2.1]; exact hl.1) rfl dX3_init_1 (Nat.le_of_ble_eq_true rfl) (Nat.le_of_ble_eq_true rfl) ?_
  refine W.eq (g2 := F0 m 4 ls []) rfl ?_
  refine lv_aload_n (pc := 4) C0.1 C0.2.1 dX3_init_4 rfl (lv_at hl 0 rfl) ?_
  refine lv_bipush (v := 12) (pc := 5) C0.1 C0.2.1 dX3_init_5 (by decide) ?_
  refine y_newA (pc := 7) (atype := .int) (t := 0) (ty := .int) (a0 := (12, .inl (fun _ => 0))) (N' := 12) C0 rfl (by intro C hC; cases hC) wa_int rfl hK.1 hP hD hS hA (fun _ => rfl) (by decide) (by decide) (by decide) (Nat.le_of_ble_eq_true rfl) (Nat.le_of_ble_eq_true rfl) (q := h + 1) (by omega) dX3_init_7 (fun H hP hD hS hz => ?_)
  have hP : va_P D vwCl ((h, .inr (3, [.null, .null, .null, .null, .null, .null])) :: [(h + 1, .inl (y 0, 12, .inl (fun _ => 0)))]) H := hP
  have hD : va_D (XF h (h + 1)) ((h, .inr (3, [.null, .null, .null, .null, .null, .null])) :: [(h + 1, .inl (y 0, 12, .inl (fun _ => 0)))]) := hD
  refine y_putF (pc := 9) C0 hin hK.1 hP hD hS inX3 tyX3_ok nmX3 rfl 0 (by decide) wf_X3_9 rfl rfl rfl rfl rfl (Nat.le_of_ble_eq_true rfl) rfl dX3_init_9 (fun H locs hP hD hS hz1 => ?_)
  have hz := hz1.trans hz
  have hP : va_P D vwCl ((h, .inr (3, [.ref (h + 1), .null, .null, .null, .null, .null])) :: [(h + 1, .inl (y 0, 12, .inl (fun _ => 0)))]) H := hP
  have hD : va_D (XF h (h + 1)) ((h, .inr (3, [.ref (h + 1), .null, .null, .null, .null, .null])) :: [(h + 1, .inl (y 0, 12, .inl (fun _ => 0)))]) := hD
  refine lv_aload_n (pc := 12) C0.1 C0.2.1 dX3_init_12 rfl (lv_at hl 0 rfl) ?_
  refine lv_iconst (v := 4) (pc := 13) C0.1 C0.2.1 dX3_init_13 (by decide) ?_
  refine y_newA (pc := 14) (atype := .int) (t := 0) (ty := .int) (a0 := (4, .inl (fun _ => 0))) (N' := 4) C0 rfl (by intro C hC; cases hC) wa_int rfl hK.1 hP hD hS hA (fun _ => rfl) (by decide) (by decide) (by decide) (Nat.le_of_ble_eq_true rfl) (Nat.le_of_ble_eq_true rfl) (q := h + 2) (by omega) dX3_init_14 (fun H hP hD hS hz => ?_)
  have hP : va_P D vwCl ((h, .inr (3, [.ref (h + 1), .null, .null, .null, .null, .null])) :: ([(h + 1, .inl (y 0, 12, .inl (fun _ => 0)))] ++ [(h + 2, .inl (y 0, 4, .inl (fun _ => 0)))])) H := hP
  have hD : va_D (XF h (h + 1)) ((h, .inr (3, [.ref (h + 1), .null, .null, .null, .null, .null])) :: ([(h + 1, .inl (y 0, 12, .inl (fun _ => 0)))] ++ [(h + 2, .inl (y 0, 4, .inl (fun _ => 0)))])) := hD
  refine y_putF (pc := 16) C0 hin hK.1 hP hD hS inX3 tyX3_ok nmX3 rfl 1 (by decide) wf_X3_15 rfl rfl rfl rfl rfl (Nat.le_of_ble_eq_true rfl) rfl dX3_init_16 (fun H locs hP hD hS hz1 => ?_)
  have hz := hz1.trans hz
  have hP : va_P D vwCl ((h, .inr (3, [.ref (h + 1), .ref (h + 2), .null, .null, .null, .null])) :: ([(h + 1, .inl (y 0, 12, .inl (fun _ => 0)))] ++ [(h + 2, .inl (y 0, 4, .inl (fun _ => 0)))])) H := hP
  have hD : va_D (XF h (h + 1)) ((h, .inr (3, [.ref (h + 1), .ref (h + 2), .null, .null, .null, .null])) :: ([(h + 1, .inl (y 0, 12, .inl (fun _ => 0)))] ++ [(h + 2, .inl (y 0, 4, .inl (fun _ => 0)))])) := hD
  refine lv_aload_n (pc := 19) C0.1 C0.2.1 dX3_init_19 rfl (lv_at hl 0 rfl) ?_
  refine y_new (pc := 20) (ci := 0) (fs := [.int 0, .int 0, .int 0, .int 0, .int 0, .null]) (T := TX0) (N := 6) C0 inX0 tyX0_ok wl_X3_18 wo_X0 wn_X0 hK.1 hP hD hS hA rfl (by decide +kernel) (Nat.le_of_ble_eq_true rfl) (Nat.le_of_ble_eq_true rfl) (q := h + 3) (by omega) dX3_init_20 (fun H hP hD hS hz => ?_)
  have hP : va_P D vwCl (((h, .inr (3, [.ref (h + 1), .ref (h + 2), .null, .null, .null, .null])) :: ([(h + 1, .inl (y 0, 12, .inl (fun _ => 0)))] ++ [(h + 2, .inl (y 0, 4, .inl (fun _ => 0)))])) ++ [(h + 3, .inr (0, [.int 0, .int 0, .int 0, .int 0, .int 0, .null]))]) H := hP
  have hD : va_D (XF h (h + 1)) (((h, .inr (3, [.ref (h + 1), .ref (h + 2), .null, .null, .null, .null])) :: ([(h + 1, .inl (y 0, 12, .inl (fun _ => 0)))] ++ [(h + 2, .inl (y 0, 4, .inl (fun _ => 0)))])) ++ [(h + 3, .inr (0, [.int 0, .int 0, .int 0, .int 0, .int 0, .null]))]) := hD
  refine lv_dup (pc := 23) C0.1 C0.2.1 dX3_init_23 rfl ?_
  refine y_ctor (pc := 24) (n := 13) (ms := 180) (w1 := wBox y (h + 3)) (q := h + 3) (by omega) hP hD hS hA (y_run C0 hK hl.1 (q := h + 3) (by omega) hP (nX0_init l D y (h + 3)) rfl wc_X0_init wm_X3_20 wi_X0_init wn_X0 rfl ⟨rfl, rfl⟩ hdc_X0_init ⟨Nat.le_of_ble_eq_true rfl, Nat.le_of_ble_eq_true rfl⟩ (Nat.le_of_ble_eq_true rfl) dX3_init_24 ⟨Nat.le_of_ble_eq_true rfl, Nat.le_of_ble_eq_true rfl⟩) (Ctg.D gBox) (fun H locs hP hD hS hz => ?_)
  have hP : va_P D vwCl ((h, .inr (3, [.ref (h + 1), .ref (h + 2), .null, .null, .null, .null])) :: (([(h + 1, .inl (y 0, 12, .inl (fun _ => 0)))] ++ [(h + 2, .inl (y 0, 4, .inl (fun _ => 0)))]) ++ wBox y (h + 3))) H := hP
  have hD : va_D (XF h (h + 1)) ((h, .inr (3, [.ref (h + 1), .ref (h + 2), .null, .null, .null, .null])) :: (([(h + 1, .inl (y 0, 12, .inl (fun _ => 0)))] ++ [(h + 2, .inl (y 0, 4, .inl (fun _ => 0)))]) ++ wBox y (h + 3))) := hD
  refine y_putF (pc := 27) C0 hin hK.1 hP hD hS inX3 tyX3_ok nmX3 rfl 2 (by decide) wf_X3_21 rfl rfl rfl rfl rfl (Nat.le_of_ble_eq_true rfl) rfl dX3_init_27 (fun H locs hP hD hS hz1 => ?_)
  have hz := hz1.trans hz
  have hP : va_P D vwCl ((h, .inr (3, [.ref (h + 1), .ref (h + 2), .ref (h + 3), .null, .null, .null])) :: (([(h + 1, .inl (y 0, 12, .inl (fun _ => 0)))] ++ [(h + 2, .inl (y 0, 4, .inl (fun _ => 0)))]) ++ wBox y (h + 3))) H := hP
  have hD : va_D (XF h (h + 1)) ((h, .inr (3, [.ref (h + 1), .ref (h + 2), .ref (h + 3), .null, .null, .null])) :: (([(h + 1, .inl (y 0, 12, .inl (fun _ => 0)))] ++ [(h + 2, .inl (y 0, 4, .inl (fun _ => 0)))]) ++ wBox y (h + 3))) := hD
  refine lv_aload_n (pc := 30) C0.1 C0.2.1 dX3_init_30 rfl (lv_at hl 0 rfl) ?_
  refine lv_bipush (v := 12) (pc := 31) C0.1 C0.2.1 dX3_init_31 (by decide) ?_
  refine y_newA (pc := 33) (atype := .int) (t := 0) (ty := .int) (a0 := (12, .inl (fun _ => 0))) (N' := 12) C0 rfl (by intro C hC; cases hC) wa_int rfl hK.1 hP hD hS hA (fun _ => rfl) (by decide) (by decide) (by decide) (Nat.le_of_ble_eq_true rfl) (Nat.le_of_ble_eq_true rfl) (q := h + 17) (by omega) dX3_init_33 (fun H hP hD hS hz => ?_)
  have hP : va_P D vwCl ((h, .inr (3, [.ref (h + 1), .ref (h + 2), .ref (h + 3), .null, .null, .null])) :: ((([(h + 1, .inl (y 0, 12, .inl (fun _ => 0)))] ++ [(h + 2, .inl (y 0, 4, .inl (fun _ => 0)))]) ++ wBox y (h + 3)) ++ [(h + 17, .inl (y 0, 12, .inl (fun _ => 0)))])) H := hP
  have hD : va_D (XF h (h + 1)) ((h, .inr (3, [.ref (h + 1), .ref (h + 2), .ref (h + 3), .null, .null, .null])) :: ((([(h + 1, .inl (y 0, 12, .inl (fun _ => 0)))] ++ [(h + 2, .inl (y 0, 4, .inl (fun _ => 0)))]) ++ wBox y (h + 3)) ++ [(h + 17, .inl (y 0, 12, .inl (fun _ => 0)))])) := hD
  refine y_putF (pc := 35) C0 hin hK.1 hP hD hS inX3 tyX3_ok nmX3 rfl 3 (by decide) wf_X3_25 rfl rfl rfl rfl rfl (Nat.le_of_ble_eq_true rfl) rfl dX3_init_35 (fun H locs hP hD hS hz1 => ?_)
  have hz := hz1.trans hz
  have hP : va_P D vwCl ((h, .inr (3, [.ref (h + 1), .ref (h + 2), .ref (h + 3), .ref (h + 17), .null, .null])) :: ((([(h + 1, .inl (y 0, 12, .inl (fun _ => 0)))] ++ [(h + 2, .inl (y 0, 4, .inl (fun _ => 0)))]) ++ wBox y (h + 3)) ++ [(h + 17, .inl (y 0, 12, .inl (fun _ => 0)))])) H := hP
  have hD : va_D (XF h (h + 1)) ((h, .inr (3, [.ref (h + 1), .ref (h + 2), .ref (h + 3), .ref (h + 17), .null, .null])) :: ((([(h + 1, .inl (y 0, 12, .inl (fun _ => 0)))] ++ [(h + 2, .inl (y 0, 4, .inl (fun _ => 0)))]) ++ wBox y (h + 3)) ++ [(h + 17, .inl (y 0, 12, .inl (fun _ => 0)))])) := hD
  refine lv_aload_n (pc := 38) C0.1 C0.2.1 dX3_init_38 rfl (lv_at hl 0 rfl) ?_
  refine lv_iconst (v := 4) (pc := 39) C0.1 C0.2.1 dX3_init_39 (by decide) ?_
  refine y_newA (pc := 40) (atype := .int) (t := 0) (ty := .int) (a0 := (4, .inl (fun _ => 0))) (N' := 4) C0 rfl (by intro C hC; cases hC) wa_int rfl hK.1 hP hD hS hA (fun _ => rfl) (by decide) (by decide) (by decide) (Nat.le_of_ble_eq_true rfl) (Nat.le_of_ble_eq_true rfl) (q := h + 18) (by omega) dX3_init_40 (fun H hP hD hS hz => ?_)
  have hP : va_P D vwCl ((h, .inr (3, [.ref (h + 1), .ref (h + 2), .ref (h + 3), .ref (h + 17), .null, .null])) :: (((([(h + 1, .inl (y 0, 12, .inl (fun _ => 0)))] ++ [(h + 2, .inl (y 0, 4, .inl (fun _ => 0)))]) ++ wBox y (h + 3)) ++ [(h + 17, .inl (y 0, 12, .inl (fun _ => 0)))]) ++ [(h + 18, .inl (y 0, 4, .inl (fun _ => 0)))])) H := hP
  have hD : va_D (XF h (h + 1)) ((h, .inr (3, [.ref (h + 1), .ref (h + 2), .ref (h + 3), .ref (h + 17), .null, .null])) :: (((([(h + 1, .inl (y 0, 12, .inl (fun _ => 0)))] ++ [(h + 2, .inl (y 0, 4, .inl (fun _ => 0)))]) ++ wBox y (h + 3)) ++ [(h + 17, .inl (y 0, 12, .inl (fun _ => 0)))]) ++ [(h + 18, .inl (y 0, 4, .inl (fun _ => 0)))])) := hD
  refine y_putF (pc := 42) C0 hin hK.1 hP hD hS inX3 tyX3_ok nmX3 rfl 4 (by decide) wf_X3_28 rfl rfl rfl rfl rfl (Nat.le_of_ble_eq_true rfl) rfl dX3_init_42 (fun H locs hP hD hS hz1 => ?_)
  have hz := hz1.trans hz
  have hP : va_P D vwCl ((h, .inr (3, [.ref (h + 1), .ref (h + 2), .ref (h + 3), .ref (h + 17), .ref (h + 18), .null])) :: (((([(h + 1, .inl (y 0, 12, .inl (fun _ => 0)))] ++ [(h + 2, .inl (y 0, 4, .inl (fun _ => 0)))]) ++ wBox y (h + 3)) ++ [(h + 17, .inl (y 0, 12, .inl (fun _ => 0)))]) ++ [(h + 18, .inl (y 0, 4, .inl (fun _ => 0)))])) H := hP
  have hD : va_D (XF h (h + 1)) ((h, .inr (3, [.ref (h + 1), .ref (h + 2), .ref (h + 3), .ref (h + 17), .ref (h + 18), .null])) :: (((([(h + 1, .inl (y 0, 12, .inl (fun _ => 0)))] ++ [(h + 2, .inl (y 0, 4, .inl (fun _ => 0)))]) ++ wBox y (h + 3)) ++ [(h + 17, .inl (y 0, 12, .inl (fun _ => 0)))]) ++ [(h + 18, .inl (y 0, 4, .inl (fun _ => 0)))])) := hD
  refine lv_aload_n (pc := 45) C0.1 C0.2.1 dX3_init_45 rfl (lv_at hl 0 rfl) ?_
  refine y_new (pc := 46) (ci := 1) (fs := [.null, .int 0, .int 0, .int 0, .int 0, .int 0, .int 0, .int 0, .int 0]) (T := TX1) (N := 9) C0 inX1 tyX1_ok wl_X3_31 wo_X1 wn_X1 hK.1 hP hD hS hA rfl (by decide +kernel) (Nat.le_of_ble_eq_true rfl) (Nat.le_of_ble_eq_true rfl) (q := h + 19) (by omega) dX3_init_46 (fun H hP hD hS hz => ?_)
  have hP : va_P D vwCl (((h, .inr (3, [.ref (h + 1), .ref (h + 2), .ref (h + 3), .ref (h + 17), .ref (h + 18), .null])) :: (((([(h + 1, .inl (y 0, 12, .inl (fun _ => 0)))] ++ [(h + 2, .inl (y 0, 4, .inl (fun _ => 0)))]) ++ wBox y (h + 3)) ++ [(h + 17, .inl (y 0, 12, .inl (fun _ => 0)))]) ++ [(h + 18, .inl (y 0, 4, .inl (fun _ => 0)))])) ++ [(h + 19, .inr (1, [.null, .int 0, .int 0, .int 0, .int 0, .int 0, .int 0, .int 0, .int 0]))]) H := hP
  have hD : va_D (XF h (h + 1)) (((h, .inr (3, [.ref (h + 1), .ref (h + 2), .ref (h + 3), .ref (h + 17), .ref (h + 18), .null])) :: (((([(h + 1, .inl (y 0, 12, .inl (fun _ => 0)))] ++ [(h + 2, .inl (y 0, 4, .inl (fun _ => 0)))]) ++ wBox y (h + 3)) ++ [(h + 17, .inl (y 0, 12, .inl (fun _ => 0)))]) ++ [(h + 18, .inl (y 0, 4, .inl (fun _ => 0)))])) ++ [(h + 19, .inr (1, [.null, .int 0, .int 0, .int 0, .int 0, .int 0, .int 0, .int 0, .int 0]))]) := hD
  refine lv_dup (pc := 49) C0.1 C0.2.1 dX3_init_49 rfl ?_
  refine y_ctor (pc := 50) (n := 1) (ms := 100) (w1 := wFind y (h + 19)) (q := h + 19) (by omega) hP hD hS hA (y_runN C0 hK hl.1 (q := h + 19) (by omega) hP (nX1_init l D y (h + 19)) rfl wc_X1_init hK.2.1.2.2.2.2 wi_X1_init wn_X1 rfl ⟨rfl, rfl⟩ hdc_X1_init ⟨Nat.le_of_ble_eq_true rfl, Nat.le_of_ble_eq_true rfl⟩ (Nat.le_of_ble_eq_true rfl) dX3_init_50 ⟨Nat.le_of_ble_eq_true rfl, Nat.le_of_ble_eq_true rfl⟩) (Ctg.D gFind) (fun H locs hP hD hS hz => ?_)
  have hP : va_P D vwCl ((h, .inr (3, [.ref (h + 1), .ref (h + 2), .ref (h + 3), .ref (h + 17), .ref (h + 18), .null])) :: ((((([(h + 1, .inl (y 0, 12, .inl (fun _ => 0)))] ++ [(h + 2, .inl (y 0, 4, .inl (fun _ => 0)))]) ++ wBox y (h + 3)) ++ [(h + 17, .inl (y 0, 12, .inl (fun _ => 0)))]) ++ [(h + 18, .inl (y 0, 4, .inl (fun _ => 0)))]) ++ wFind y (h + 19))) H := hP
  have hD : va_D (XF h (h + 1)) ((h, .inr (3, [.ref (h + 1), .ref (h + 2), .ref (h + 3), .ref (h + 17), .ref (h + 18), .null])) :: ((((([(h + 1, .inl (y 0, 12, .inl (fun _ => 0)))] ++ [(h + 2, .inl (y 0, 4, .inl (fun _ => 0)))]) ++ wBox y (h + 3)) ++ [(h + 17, .inl (y 0, 12, .inl (fun _ => 0)))]) ++ [(h + 18, .inl (y 0, 4, .inl (fun _ => 0)))]) ++ wFind y (h + 19))) := hD
  refine y_putF (pc := 53) C0 hin hK.1 hP hD hS inX3 tyX3_ok nmX3 rfl 5 (by decide) wf_X3_34 rfl rfl rfl rfl rfl (Nat.le_of_ble_eq_true rfl) rfl dX3_init_53 (fun H locs hP hD hS hz1 => ?_)
  have hz := hz1.trans hz
  have hP : va_P D vwCl (wPack y h) H := hP
  have hD : va_D (XF h (h + 1)) (wPack y h) := hD
  refine W.widen (k := 20) (n := 327) (Nat.le_of_ble_eq_true rfl) (Nat.le_of_ble_eq_true rfl) ?_
  exact y_vret (pc := 56) C0 hlocks hr hP hS (by omega) dX3_init_56
def wX6_init : List Cond := .code yX6_init cX6_init 1 none :: lwT
def rX6_init : Room := { frames := 4, cells := 167, slots := 2419, locals := 74 }
set_option maxRecDepth 100000 in
set_option maxHeartbeats 4000000 in
theorem nX6_init (l : Launch) (D : va_G) (y : Nat → ClassId) (h : Nat) : Met l yX6_init wX6_init rX6_init (va_Pc [.ref h] (XCp D y h (h + 1) (.inr (6, [.null, .null, .null, .null, .null])))) (XCq D h (h + 1) 167 (wMain y h)) 167 2419 (XF h (h + 1)) := by
  refine y_met (bytes := cX6_init) (maxL := 1) (own := RX6) (by decide) rfl rfl (Nat.le_of_ble_eq_true rfl) (fun p e s m below meth c ls C0 hK hlocks hr hin hz hP hD hS hA hl => ?_)
  refine lv_aload_n (pc := 0) C0.1 C0.2.1 dX6_init_0 rfl (lv_at hl 0 rfl) ?_
  refine W.objInit C0.1 C0.2.1 C0.2.2.2.1 (C0.2.2.2.2 _ wm_X6_1) (C0.2.2.2.2 _ wi_obj) (C0.2.2.2.2 _ wc_obj) rfl (by rw [C0.2.2.1]; exact hl.1) rfl dX6_init_1 (Nat.le_of_ble_eq_true rfl) (Nat.le_of_ble_eq_true rfl) ?_
  refine W.eq (g2 := F0 m 4 ls []) rfl ?_
  refine lv_aload_n (pc := 4) C0.1 C0.2.1 dX6_init_4 rfl (lv_at hl 0 rfl) ?_
  refine y_new (pc := 5) (ci := 0) (fs := [.int 0, .int 0, .int 0, .int 0, .int 0, .null]) (T := TX0) (N := 6) C0 inX0 tyX0_ok wl_X6_7 wo_X0 wn_X0 hK.1 hP hD hS hA rfl (by decide +kernel) (Nat.le_of_ble_eq_true rfl) (Nat.le_of_ble_eq_true rfl) (q := h + 1) (by omega) dX6_init_5 (fun H hP hD hS hz => ?_)
  have hP : va_P D vwCl (((h, .inr (6, [.null, .null, .null, .null, .null])) :: []) ++ [(h + 1, .inr (0, [.int 0, .int 0, .int 0, .int 0, .int 0, .null]))]) H := hP
  have hD : va_D (XF h (h + 1)) (((h, .inr (6, [.null, .null, .null, .null, .null])) :: []) ++ [(h + 1, .inr (0, [.int 0, .int 0, .int 0, .int 0, .int 0, .null]))]) := hD
  refine lv_dup (pc := 8) C0.1 C0.2.1 dX6_init_8 rfl ?_
  refine y_ctor (pc := 9) (n := 13) (ms := 180) (w1 := wBox y (h + 1)) (q := h + 1) (by omega) hP hD hS hA (y_run C0 hK hl.1 (q := h + 1) (by omega) hP (nX0_init l D y (h + 1)) rfl wc_X0_init wm_X6_9 wi_X0_init wn_X0 rfl ⟨rfl, rfl⟩ hdc_X0_init ⟨Nat.le_of_ble_eq_true rfl, Nat.le_of_ble_eq_true rfl⟩ (Nat.le_of_ble_eq_true rfl) dX6_init_9 ⟨Nat.le_of_ble_eq_true rfl, Nat.le_of_ble_eq_true rfl⟩) (Ctg.D gBox) (fun H locs hP hD hS hz => ?_)
  have hP : va_P D vwCl ((h, .inr (6, [.null, .null, .null, .null, .null])) :: wBox y (h + 1)) H := hP
  have hD : va_D (XF h (h + 1)) ((h, .inr (6, [.null, .null, .null, .null, .null])) :: wBox y (h + 1)) := hD
  refine y_putF (pc := 12) C0 hin hK.1 hP hD hS inX6 tyX6_ok nmX6 rfl 0 (by decide) wf_X6_10 rfl rfl rfl rfl rfl (Nat.le_of_ble_eq_true rfl) rfl dX6_init_12 (fun H locs hP hD hS hz1 => ?_)
  have hz := hz1.trans hz
  have hP : va_P D vwCl ((h, .inr (6, [.ref (h + 1), .null, .null, .null, .null])) :: wBox y (h + 1)) H := hP
  have hD : va_D (XF h (h + 1)) ((h, .inr (6, [.ref (h + 1), .null, .null, .null, .null])) :: wBox y (h + 1)) := hD
  refine lv_aload_n (pc := 15) C0.1 C0.2.1 dX6_init_15 rfl (lv_at hl 0 rfl) ?_
  refine y_new (pc := 16) (ci := 2) (fs := [.int 0, .int 0, .null]) (T := TX2) (N := 3) C0 inX2 tyX2_ok wl_X6_16 wo_X2 wn_X2 hK.1 hP hD hS hA rfl (by decide +kernel) (Nat.le_of_ble_eq_true rfl) (Nat.le_of_ble_eq_true rfl) (q := h + 15) (by omega) dX6_init_16 (fun H hP hD hS hz => ?_)
  have hP : va_P D vwCl (((h, .inr (6, [.ref (h + 1), .null, .null, .null, .null])) :: wBox y (h + 1)) ++ [(h + 15, .inr (2, [.int 0, .int 0, .null]))]) H := hP
  have hD : va_D (XF h (h + 1)) (((h, .inr (6, [.ref (h + 1), .null, .null, .null, .null])) :: wBox y (h + 1)) ++ [(h + 15, .inr (2, [.int 0, .int 0, .null]))]) := hD
  refine lv_dup (pc := 19) C0.1 C0.2.1 dX6_init_19 rfl ?_
  refine y_ctor (pc := 20) (n := 113) (ms := 1496) (w1 := wHist y (h + 15)) (q := h + 15) (by omega) hP hD hS hA (y_run C0 hK hl.1 (q := h + 15) (by omega) hP (nX2_init l D y (h + 15)) rfl wc_X2_init wm_X6_18 wi_X2_init wn_X2 rfl ⟨rfl, rfl⟩ hdc_X2_init ⟨Nat.le_of_ble_eq_true rfl, Nat.le_of_ble_eq_true rfl⟩ (Nat.le_of_ble_eq_true rfl) dX6_init_20 ⟨Nat.le_of_ble_eq_true rfl, Nat.le_of_ble_eq_true rfl⟩) (Ctg.D gHist) (fun H locs hP hD hS hz => ?_)
  have hP : va_P D vwCl ((h, .inr (6, [.ref (h + 1), .null, .null, .null, .null])) :: (wBox y (h + 1) ++ wHist y (h + 15))) H := hP
  have hD : va_D (XF h (h + 1)) ((h, .inr (6, [.ref (h + 1), .null, .null, .null, .null])) :: (wBox y (h + 1) ++ wHist y (h + 15))) := hD
  refine y_putF (pc := 23) C0 hin hK.1 hP hD hS inX6 tyX6_ok nmX6 rfl 1 (by decide) wf_X6_19 rfl rfl rfl rfl rfl (Nat.le_of_ble_eq_true rfl) rfl dX6_init_23 (fun H locs hP hD hS hz1 => ?_)
  have hz := hz1.trans hz
  have hP : va_P D vwCl ((h, .inr (6, [.ref (h + 1), .ref (h + 15), .null, .null, .null])) :: (wBox y (h + 1) ++ wHist y (h + 15))) H := hP
  have hD : va_D (XF h (h + 1)) ((h, .inr (6, [.ref (h + 1), .ref (h + 15), .null, .null, .null])) :: (wBox y (h + 1) ++ wHist y (h + 15))) := hD
  refine lv_aload_n (pc := 26) C0.1 C0.2.1 dX6_init_26 rfl (lv_at hl 0 rfl) ?_
  refine y_new (pc := 27) (ci := 4) (fs := [.int 0, .int 0, .null, .null, .int 0, .int 0]) (T := TX4) (N := 6) C0 inX4 tyX4_ok wl_X6_23 wo_X4 wn_X4 hK.1 hP hD hS hA rfl (by decide +kernel) (Nat.le_of_ble_eq_true rfl) (Nat.le_of_ble_eq_true rfl) (q := h + 129) (by omega) dX6_init_27 (fun H hP hD hS hz => ?_)
  have hP : va_P D vwCl (((h, .inr (6, [.ref (h + 1), .ref (h + 15), .null, .null, .null])) :: (wBox y (h + 1) ++ wHist y (h + 15))) ++ [(h + 129, .inr (4, [.int 0, .int 0, .null, .null, .int 0, .int 0]))]) H := hP
  have hD : va_D (XF h (h + 1)) (((h, .inr (6, [.ref (h + 1), .ref (h + 15), .null, .null, .null])) :: (wBox y (h + 1) ++ wHist y (h + 15))) ++ [(h + 129, .inr (4, [.int 0, .int 0, .null, .null, .int 0, .int 0]))]) := hD
  refine lv_dup (pc := 30) C0.1 C0.2.1 dX6_init_30 rfl ?_
  refine y_ctor (pc := 31) (n := 15) (ms := 286) (w1 := wText y (h + 129)) (q := h + 129) (by omega) hP hD hS hA (y_runN C0 hK hl.1 (q := h + 129) (by omega) hP (nX4_init l D y (h + 129)) rfl wc_X4_init hK.2.1.2.1 wi_X4_init wn_X4 rfl ⟨rfl, rfl⟩ hdc_X4_init ⟨Nat.le_of_ble_eq_true rfl, Nat.le_of_ble_eq_true rfl⟩ (Nat.le_of_ble_eq_true rfl) dX6_init_31 ⟨Nat.le_of_ble_eq_true rfl, Nat.le_of_ble_eq_true rfl⟩) (Ctg.D gText) (fun H locs hP hD hS hz => ?_)
  have hP : va_P D vwCl ((h, .inr (6, [.ref (h + 1), .ref (h + 15), .null, .null, .null])) :: ((wBox y (h + 1) ++ wHist y (h + 15)) ++ wText y (h + 129))) H := hP
  have hD : va_D (XF h (h + 1)) ((h, .inr (6, [.ref (h + 1), .ref (h + 15), .null, .null, .null])) :: ((wBox y (h + 1) ++ wHist y (h + 15)) ++ wText y (h + 129))) := hD
  refine y_putF (pc := 34) C0 hin hK.1 hP hD hS inX6 tyX6_ok nmX6 rfl 2 (by decide) wf_X6_26 rfl rfl rfl rfl rfl (Nat.le_of_ble_eq_true rfl) rfl dX6_init_34 (fun H locs hP hD hS hz1 => ?_)
  have hz := hz1.trans hz
  have hP : va_P D vwCl ((h, .inr (6, [.ref (h + 1), .ref (h + 15), .ref (h + 129), .null, .null])) :: ((wBox y (h + 1) ++ wHist y (h + 15)) ++ wText y (h + 129))) H := hP
  have hD : va_D (XF h (h + 1)) ((h, .inr (6, [.ref (h + 1), .ref (h + 15), .ref (h + 129), .null, .null])) :: ((wBox y (h + 1) ++ wHist y (h + 15)) ++ wText y (h + 129))) := hD
  refine lv_aload_n (pc := 37) C0.1 C0.2.1 dX6_init_37 rfl (lv_at hl 0 rfl) ?_
  refine y_new (pc := 38) (ci := 1) (fs := [.null, .int 0, .int 0, .int 0, .int 0, .int 0, .int 0, .int 0, .int 0]) (T := TX1) (N := 9) C0 inX1 tyX1_ok wl_X6_30 wo_X1 wn_X1 hK.1 hP hD hS hA rfl (by decide +kernel) (Nat.le_of_ble_eq_true rfl) (Nat.le_of_ble_eq_true rfl) (q := h + 145) (by omega) dX6_init_38 (fun H hP hD hS hz => ?_)
  have hP : va_P D vwCl (((h, .inr (6, [.ref (h + 1), .ref (h + 15), .ref (h + 129), .null, .null])) :: ((wBox y (h + 1) ++ wHist y (h + 15)) ++ wText y (h + 129))) ++ [(h + 145, .inr (1, [.null, .int 0, .int 0, .int 0, .int 0, .int 0, .int 0, .int 0, .int 0]))]) H := hP
  have hD : va_D (XF h (h + 1)) (((h, .inr (6, [.ref (h + 1), .ref (h + 15), .ref (h + 129), .null, .null])) :: ((wBox y (h + 1) ++ wHist y (h + 15)) ++ wText y (h + 129))) ++ [(h + 145, .inr (1, [.null, .int 0, .int 0, .int 0, .int 0, .int 0, .int 0, .int 0, .int 0]))]) := hD
  refine lv_dup (pc := 41) C0.1 C0.2.1 dX6_init_41 rfl ?_
  refine y_ctor (pc := 42) (n := 1) (ms := 100) (w1 := wFind y (h + 145)) (q := h + 145) (by omega) hP hD hS hA (y_runN C0 hK hl.1 (q := h + 145) (by omega) hP (nX1_init l D y (h + 145)) rfl wc_X1_init hK.2.1.2.2.1 wi_X1_init wn_X1 rfl ⟨rfl, rfl⟩ hdc_X1_init ⟨Nat.le_of_ble_eq_true rfl, Nat.le_of_ble_eq_true rfl⟩ (Nat.le_of_ble_eq_true rfl) dX6_init_42 ⟨Nat.le_of_ble_eq_true rfl, Nat.le_of_ble_eq_true rfl⟩) (Ctg.D gFind) (fun H locs hP hD hS hz => ?_)
  have hP : va_P D vwCl ((h, .inr (6, [.ref (h + 1), .ref (h + 15), .ref (h + 129), .null, .null])) :: (((wBox y (h + 1) ++ wHist y (h + 15)) ++ wText y (h + 129)) ++ wFind y (h + 145))) H := hP
  have hD : va_D (XF h (h + 1)) ((h, .inr (6, [.ref (h + 1), .ref (h + 15), .ref (h + 129), .null, .null])) :: (((wBox y (h + 1) ++ wHist y (h + 15)) ++ wText y (h + 129)) ++ wFind y (h + 145))) := hD
  refine y_putF (pc := 45) C0 hin hK.1 hP hD hS inX6 tyX6_ok nmX6 rfl 3 (by decide) wf_X6_33 rfl rfl rfl rfl rfl (Nat.le_of_ble_eq_true rfl) rfl dX6_init_45 (fun H locs hP hD hS hz1 => ?_)
  have hz := hz1.trans hz
  have hP : va_P D vwCl ((h, .inr (6, [.ref (h + 1), .ref (h + 15), .ref (h + 129), .ref (h + 145), .null])) :: (((wBox y (h + 1) ++ wHist y (h + 15)) ++ wText y (h + 129)) ++ wFind y (h + 145))) H := hP
  have hD : va_D (XF h (h + 1)) ((h, .inr (6, [.ref (h + 1), .ref (h + 15), .ref (h + 129), .ref (h + 145), .null])) :: (((wBox y (h + 1) ++ wHist y (h + 15)) ++ wText y (h + 129)) ++ wFind y (h + 145))) := hD
  refine lv_aload_n (pc := 48) C0.1 C0.2.1 dX6_init_48 rfl (lv_at hl 0 rfl) ?_
  refine y_new (pc := 49) (ci := 3) (fs := [.null, .null, .null, .null, .null, .null]) (T := TX3) (N := 6) C0 inX3 tyX3_ok wl_X6_37 wo_X3 wn_X3 hK.1 hP hD hS hA rfl (by decide +kernel) (Nat.le_of_ble_eq_true rfl) (Nat.le_of_ble_eq_true rfl) (q := h + 147) (by omega) dX6_init_49 (fun H hP hD hS hz => ?_)
  have hP : va_P D vwCl (((h, .inr (6, [.ref (h + 1), .ref (h + 15), .ref (h + 129), .ref (h + 145), .null])) :: (((wBox y (h + 1) ++ wHist y (h + 15)) ++ wText y (h + 129)) ++ wFind y (h + 145))) ++ [(h + 147, .inr (3, [.null, .null, .null, .null, .null, .null]))]) H := hP
  have hD : va_D (XF h (h + 1)) (((h, .inr (6, [.ref (h + 1), .ref (h + 15), .ref (h + 129), .ref (h + 145), .null])) :: (((wBox y (h + 1) ++ wHist y (h + 15)) ++ wText y (h + 129)) ++ wFind y (h + 145))) ++ [(h + 147, .inr (3, [.null, .null, .null, .null, .null, .null]))]) := hD
  refine lv_dup (pc := 52) C0.1 C0.2.1 dX6_init_52 rfl ?_
  refine y_ctor (pc := 53) (n := 20) (ms := 327) (w1 := wPack y (h + 147)) (q := h + 147) (by omega) hP hD hS hA (y_runN C0 hK hl.1 (q := h + 147) (by omega) hP (nX3_init l D y (h + 147)) rfl wc_X3_init hK.2.1.2.2.2.1 wi_X3_init wn_X3 rfl ⟨rfl, rfl⟩ hdc_X3_init ⟨Nat.le_of_ble_eq_true rfl, Nat.le_of_ble_eq_true rfl⟩ (Nat.le_of_ble_eq_true rfl) dX6_init_53 ⟨Nat.le_of_ble_eq_true rfl, Nat.le_of_ble_eq_true rfl⟩) (Ctg.D gPack) (fun H locs hP hD hS hz => ?_)
  have hP : va_P D vwCl ((h, .inr (6, [.ref (h + 1), .ref (h + 15), .ref (h + 129), .ref (h + 145), .null])) :: ((((wBox y (h + 1) ++ wHist y (h + 15)) ++ wText y (h + 129)) ++ wFind y (h + 145)) ++ wPack y (h + 147))) H := hP
  have hD : va_D (XF h (h + 1)) ((h, .inr (6, [.ref (h + 1), .ref (h + 15), .ref (h + 129), .ref (h + 145), .null])) :: ((((wBox y (h + 1) ++ wHist y (h + 15)) ++ wText y (h + 129)) ++ wFind y (h + 145)) ++ wPack y (h + 147))) := hD
  refine y_putF (pc := 56) C0 hin hK.1 hP hD hS inX6 tyX6_ok nmX6 rfl 4 (by decide) wf_X6_40 rfl rfl rfl rfl rfl (Nat.le_of_ble_eq_true rfl) rfl dX6_init_56 (fun H locs hP hD hS hz1 => ?_)
  have hz := hz1.trans hz
  have hP : va_P D vwCl (wMain y h) H := hP
  have hD : va_D (XF h (h + 1)) (wMain y h) := hD
  refine W.widen (k := 167) (n := 2419) (Nat.le_of_ble_eq_true rfl) (Nat.le_of_ble_eq_true rfl) ?_
  exact y_vret (pc := 59) C0 hlocks hr hP hS (by omega) dX6_init_59
