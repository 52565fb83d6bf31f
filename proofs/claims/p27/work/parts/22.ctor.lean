/-! CONSTRUCTORS: their worlds grow; every cell's address is told -/
def XF (h sz : Nat) : Nat → Prop := fun q => q = h ∨ sz ≤ q
def XCp (D : va_G) (y : Nat → ClassId) (h sz : Nat) (e0 : va_E) : State → Prop := fun U => U.heap.size = sz ∧ va_P D vwCl [(h, e0)] U.heap ∧ XK D y U
def XCq (D : va_G) (h sz n : Nat) (w1 : va_W) : Array Value → State → Outcome → State → Prop := va_Qv (fun _ : Unit => True) (fun _ t => t.heap.size = sz + n ∧ va_P D vwCl w1 t.heap) (XF h sz)
theorem arrV_congr {cA : ClassId} {n : Nat} {f g : Nat → Value} (h : ∀ j, j < n → f j = g j) : arrV cA n f = arrV cA n g := by
  unfold arrV
  congr 1
  apply Array.ext
  · simp
  · intro i h1 h2
    simp only [Array.getElem_ofFn]
    exact h i (by simpa using h1)
section XCT
variable {p : Program} {l : Launch} {e : Env} {R : Room} {s : State} {m : MethodId} {args : Array Value} {below : List Frame} {meth : Method} {c : Code} {H : Heap} {locs : List Loc} {cells slots : Nat} {Q : State → Prop}
variable {cc : ByteArray} {nL pc : Nat} {own : String} {ls : Array Slot} {rest : List Value} {D : va_G} {y : Nat → ClassId} {A : Nat → Prop} {ws : va_W} {H0 : Heap}
theorem y_new (C0 : CallFix p m c cc nL s args lwT own) {C : String} {T : u_T} {N ci index : Nat} (hin : ∀ w ∈ u_ws C T N, w ∈ lwT) {ty : Nat → FieldType} (hty : ∀ k, k < N → parseFieldDescriptor (T k).2.2.1 = some (ty k)) (hcl : Cond.classLink own index C ∈ lwT) (hinst : Cond.instantiable C N ∈ lwT) (hini : Cond.initialized C ∈ lwT)
    (hK : va_K D vwCl (xT y) s) (hP : va_P D vwCl ws H) (hD : va_D A ws) (hS : va_S A H0 H locs) (hA : ∀ q, H0.size ≤ q → A q) (hc : vwCl[ci]? = some (C, T, N)) {fs : List Value} (hfs : ∀ j, j < N → defaultValue (ty j) = vp_V fs j) (hcells : cells + 1 ≤ R.cells) (hslots : slots + N ≤ R.slots) {q : Nat} (hq : H.size = q) (hdg : decode cc pc = .ok (.new index, 3))
    (kk : ∀ (H1 : Heap), va_P D vwCl (ws ++ [(q, .inr (ci, fs))]) H1 → va_D A (ws ++ [(q, .inr (ci, fs))]) → va_S A H0 H1 locs → H1.size = q + 1 →
      W p l e R s m args below meth c H1 locs (cells + 1) (slots + N) Q (F0 m (pc + 3) ls (.ref q :: rest))) : W p l e R s m args below meth c H locs cells slots Q (F0 m pc ls rest) := by
  subst hq
  have hts := C0.2.2.2.2
  have hKn := hK.1 ci _ hc
  refine W.newcK C0.1 C0.2.1 C0.2.2.2.1 (hts _ hcl) (hts _ hinst) (hts _ hini) rfl hdg hcells hslots hKn.2.1 rfl fun H1 kC hkC e1 z1 o1 => ?_
  have hk : ∀ (k : Nat) (x : Nat × va_E), ws[k]? = some x → H1[x.1]? = H[x.1]? := fun k x hx => o1 x.1 ((hP k x hx).lt)
  refine kk H1 ((hP.kept hk).app (fun k x hx => ?_)) (hD.push hP rfl (hA _ hS.1)) ⟨Nat.le_trans hS.1 (by omega), fun x h1 h2 => (o1 x (Nat.lt_of_lt_of_le h1 hS.1)).trans (hS.2.1 x h1 h2), hS.2.2⟩ z1
  have hz : k < 1 := (List.getElem?_eq_some_iff.mp hx).1
  rw [show k = 0 by omega] at hx
  cases hx
  exact ⟨_, hc, (u_born ty hts hin hKn hkC e1 hty).to hfs⟩
theorem y_newA (C0 : CallFix p m c cc nL s args lwT own) {atype : ArrayType} {t : Nat} {ty : FieldType} (hty : newarray.typeOf atype = ty) (hprim : ∀ C, ty ≠ .object C) (harr : Cond.arrayClass (newarray.typeOf atype) ∈ lwT) (ht : (xT y)[t]? = some (y t, ty)) (hK : va_K D vwCl (xT y) s) (hP : va_P D vwCl ws H) (hD : va_D A ws) (hS : va_S A H0 H locs) (hA : ∀ q, H0.size ≤ q → A q)
    {n : Int32} {N' : Nat} {a0 : vp_A} (ha : ∀ cA : ClassId, vp_cell cA a0 = arrV cA N' (fun _ => defaultValue ty)) (hn : ¬ n < 0) (hN : n.toNatClampNeg = N') (hbytes : N' * componentBytes ty ≤ 536870912) (hcells : cells + 1 ≤ R.cells) (hslots : slots + N' ≤ R.slots) {q : Nat} (hq : H.size = q) (hdg : decode cc pc = .ok (.newarray atype, 2))
    (kk : ∀ (H1 : Heap), va_P D vwCl (ws ++ [(q, .inl (y t, a0))]) H1 → va_D A (ws ++ [(q, .inl (y t, a0))]) → va_S A H0 H1 locs → H1.size = q + 1 →
      W p l e R s m args below meth c H1 locs (cells + 1) (slots + N') Q (F0 m (pc + 2) ls (.ref q :: rest))) : W p l e R s m args below meth c H locs cells slots Q (F0 m pc ls (.int n :: rest)) := by
  subst hty
  subst hq
  refine va_newaK C0.1 C0.2.1 (C0.2.2.2.2 _ harr) rfl hdg rfl hn hN hbytes hcells hslots rfl fun H1 cA e1 z1 o1 hAr hNm => ?_
  have hy := (hK.2 t _ ht).2
  have hcy : cA = y t := by
    have h1 : s.vm.findClass ("[" ++ (newarray.typeOf atype).toString) = some (y t) := by
      revert hy
      cases hz : newarray.typeOf atype with
      | object C => exact absurd hz (hprim C)
      | _ => exact fun h => h
    exact Option.some.inj (hNm.symm.trans h1)
  subst hcy
  have hk : ∀ (k : Nat) (x : Nat × va_E), ws[k]? = some x → H1[x.1]? = H[x.1]? := fun k x hx => o1 x.1 ((hP k x hx).lt)
  refine kk H1 ((hP.kept hk).app (fun k x hx => ?_)) (hD.push hP rfl (hA _ hS.1)) ⟨Nat.le_trans hS.1 (by omega), fun x h1 h2 => (o1 x (Nat.lt_of_lt_of_le h1 hS.1)).trans (hS.2.1 x h1 h2), hS.2.2⟩ z1
  have hz : k < 1 := (List.getElem?_eq_some_iff.mp hx).1
  rw [show k = 0 by omega] at hx
  cases hx
  show H1[H.size]? = some (vp_cell _ _)
  rw [ha]
  exact e1
theorem y_newQ (C0 : CallFix p m c cc nL s args lwT own) {C : String} {index t : Nat} (hcl : Cond.classLink own index C ∈ lwT) (hover : va_AO C s) (ht : (xT y)[t]? = some (y t, .object C)) (hK : va_K D vwCl (xT y) s) (hP : va_P D vwCl ws H) (hD : va_D A ws) (hS : va_S A H0 H locs) (hA : ∀ q, H0.size ≤ q → A q)
    {n : Int32} {N' : Nat} (hn : ¬ n < 0) (hN : n.toNatClampNeg = N') (hbytes : N' * 4 ≤ 536870912) (hcells : cells + 1 ≤ R.cells) (hslots : slots + N' ≤ R.slots) {q : Nat} (hq : H.size = q) (hdg : decode cc pc = .ok (.anewarray index, 3))
    (kk : ∀ (H1 : Heap), va_P D vwCl (ws ++ [(q, .inl (y t, N', .inr (.inr (.inr (.inr (fun _ => none))))))]) H1 → va_D A (ws ++ [(q, .inl (y t, N', .inr (.inr (.inr (.inr (fun _ => none))))))]) → va_S A H0 H1 locs → H1.size = q + 1 →
      W p l e R s m args below meth c H1 locs (cells + 1) (slots + N') Q (F0 m (pc + 3) ls (.ref q :: rest))) : W p l e R s m args below meth c H locs cells slots Q (F0 m pc ls (.int n :: rest)) := by
  subst hN
  subst hq
  refine W.anew C0.1 C0.2.1 C0.2.2.2.1 (C0.2.2.2.2 _ hcl) (va_AO.use hover) rfl hdg rfl hn hbytes hcells hslots fun cA kA comp f1 f2 f3 f4 => ?_
  obtain ⟨kA2, comp2, -, -, -, g4⟩ := (hK.2 t _ ht).2
  have hcy : cA = y t := Option.some.inj (f1.symm.trans g4)
  subst hcy
  generalize hH1 : H.push ({ cls := y t, slots := Array.replicate n.toNatClampNeg .null, vm := .none } : Cell) = H1
  have z1 : H1.size = H.size + 1 := by rw [← hH1, Array.size_push]
  have e1 : H1[H.size]? = some (arrV (y t) n.toNatClampNeg (fun _ => .null)) := by rw [← hH1, Array.getElem?_push_size, ← arrV_new]
  have o1 : ∀ q : Nat, q < H.size → H1[q]? = H[q]? := fun q hq => by rw [← hH1, Array.getElem?_push, if_neg (Nat.ne_of_lt hq)]
  have hk : ∀ (k : Nat) (x : Nat × va_E), ws[k]? = some x → H1[x.1]? = H[x.1]? := fun k x hx => o1 x.1 ((hP k x hx).lt)
  refine kk H1 ((hP.kept hk).app (fun k x hx => ?_)) (hD.push hP rfl (hA _ hS.1)) ⟨Nat.le_trans hS.1 (by omega), fun x h1 h2 => (o1 x (Nat.lt_of_lt_of_le h1 hS.1)).trans (hS.2.1 x h1 h2), hS.2.2⟩ z1
  have hz : k < 1 := (List.getElem?_eq_some_iff.mp hx).1
  rw [show k = 0 by omega] at hx
  cases hx
  show H1[H.size]? = some (vp_cell _ _)
  rw [vp_cell_q]
  exact e1
/-- a constructor of the cell that was made last -/
theorem y_ctor {q n ms : Nat} {e0 : va_E} {w1 : va_W} {st0 : List Value} {a : Array Value} (hq : H.size = q + 1) (hP : va_P D vwCl (ws ++ [(q, e0)]) H) (hD : va_D A (ws ++ [(q, e0)])) (hS : va_S A H0 H locs) (hA : ∀ x, H0.size ≤ x → A x)
    (hr : va_Run p l e R s m args below meth c H locs cells slots n ms (F0 m pc ls st0) rest (XCq D q (q + 1) n w1 a) (XF q (q + 1))) (hw : va_D (XF q (q + 1)) w1)
    (kk : ∀ (H1 : Heap) (locs1 : List Loc), va_P D vwCl (ws ++ w1) H1 → va_D A (ws ++ w1) → va_S A H0 H1 locs1 → H1.size = q + 1 + n → W p l e R s m args below meth c H1 locs1 (cells + n) (slots + ms) Q (F0 m (pc + 3) ls rest)) : W p l e R s m args below meth c H locs cells slots Q (F0 m pc ls st0) := by
  have hlast : (ws ++ [(q, e0)])[ws.length]? = some (q, e0) := by simp
  have hAq : A q := hD.2 _ _ hlast
  have hXA : ∀ x, XF q (q + 1) x → A x := fun x h => by
    rcases h with h | h
    · rw [h]; exact hAq
    · exact hA x (Nat.le_trans hS.1 (by omega))
  have hws : ∀ (k : Nat) (x : Nat × va_E), ws[k]? = some x → x.1 < H.size ∧ ¬ XF q (q + 1) x.1 := fun k x hx => by
    have hk : k < ws.length := (List.getElem?_eq_some_iff.mp hx).1
    have hx2 : (ws ++ [(q, e0)])[k]? = some x := by rw [List.getElem?_append_left hk]; exact hx
    have h1 := (hP k x hx2).lt
    refine ⟨h1, fun h => ?_⟩
    rcases h with h | h
    · have := hD.1 k ws.length x (q, e0) hx2 hlast h
      omega
    · omega
  refine va_callv hr hS (fun x _ h => hXA x h) (fun x h => hXA x h) (fun u t H1 locs1 ht _ _ hB hz1 hk1 hS1 => ?_)
  obtain ⟨hz, hP1⟩ := hB
  rw [ht] at hz hP1
  refine kk H1 locs1 (va_P.app (fun k x hx => ?_) hP1) (va_D.app ⟨fun i j x z hi hj h => ?_, fun k x hx => ?_⟩ (hw.weaken (fun _ x _ h => hXA x.1 h)) (fun i j x z hx hz2 h => ?_)) hS1 hz
  · have hk : k < ws.length := (List.getElem?_eq_some_iff.mp hx).1
    have hx2 : (ws ++ [(q, e0)])[k]? = some x := by rw [List.getElem?_append_left hk]; exact hx
    exact (hP k x hx2).kept (hk1 x.1 (hws k x hx).1 (hws k x hx).2)
  · have h1 : i < ws.length := (List.getElem?_eq_some_iff.mp hi).1
    have h2 : j < ws.length := (List.getElem?_eq_some_iff.mp hj).1
    exact hD.1 i j x z (by rw [List.getElem?_append_left h1]; exact hi) (by rw [List.getElem?_append_left h2]; exact hj) h
  · have h1 : k < ws.length := (List.getElem?_eq_some_iff.mp hx).1
    exact hD.2 k x (by rw [List.getElem?_append_left h1]; exact hx)
  · exact (hws i x hx).2 (by rw [h]; exact hw.2 j z hz2)
theorem y_run (C0 : CallFix p m c cc nL s args lwT own) (hK : XK D y s) (hl : ls.size = nL) {yy : MethodName} {bytes : ByteArray} {maxL index n ms q : Nat} {e0 : va_E} {w1 : va_W} {ws' : List Cond} {rm : Room} (hq : H.size = q + 1) (hP : va_P D vwCl (ws ++ [(q, e0)]) H)
    (hM : Met l yy ws' rm (va_Pc [.ref q] (XCp D y q (q + 1) e0)) (XCq D q (q + 1) n w1) n ms (XF q (q + 1))) (hws : ws' = .code yy bytes maxL none :: lwT) (hcode : Cond.code yy bytes maxL none ∈ lwT) (h1 : Cond.methodLink own index yy ∈ lwT) (h2 : Cond.instanceMethod yy ∈ lwT) (h4 : Cond.initialized yy.cls ∈ lwT) (hn1 : yy.name = "<init>") (hrm : rm.cells = n ∧ rm.slots = ms) (hd : yy.cls ≠ "java/lang/invoke/MethodHandle" ∧ yy.cls ≠ "java/lang/invoke/VarHandle" ∧ (parseMethodDescriptor yy.desc).map (fun d => d.parameters.length) = some 0) (hR : rm.frames + 1 ≤ R.frames ∧ 8 + (maxL + 11) + rm.locals ≤ R.locals) (hrest : (rest.map fun v => v.category).sum ≤ 8) (hdg : decode cc pc = .ok (.invokespecial index, 3)) (hf : cells + n ≤ R.cells ∧ slots + ms ≤ R.slots) :
    va_Run p l e R s m args below meth c H locs cells slots n ms (F0 m pc ls (.ref q :: rest)) rest (XCq D q (q + 1) n w1 [Value.ref q].toArray) (XF q (q + 1)) := by
  have hP1 : va_P D vwCl [(q, e0)] H := fun k x hx => hP (ws.length + k) x (by rw [List.getElem?_append_right (by omega)]; simpa using hx)
  exact va_runI (As := []) C0 hM (cwI 0 C0.2.2.2.2 (fun w h => ⟨x_good hws hcode w h, lwT_good w (x_good hws hcode w h)⟩) hws hrm.1 hrm.2 (C0.2.2.2.2 _ h4) (C0.2.2.2.2 _ h1) (C0.2.2.2.2 _ h2) hn1 hd hR) ⟨fun _ _ _ _ z => ⟨z.1, z.2.1, z.2.2.1, z.2.2.2.calling⟩, fun U hU hW => ⟨rfl, by rw [hU]; exact hq, by rw [hU]; exact hP1, hK.warm hW⟩⟩ rfl rfl hl rfl (lv_room hrest) hdg hf
theorem y_runN (C0 : CallFix p m c cc nL s args lwT own) (hK : XK D y s) (hl : ls.size = nL) {yy : MethodName} {bytes : ByteArray} {maxL index n ms q : Nat} {host : String} {e0 : va_E} {w1 : va_W} {ws' : List Cond} {rm : Room} (hq : H.size = q + 1) (hP : va_P D vwCl (ws ++ [(q, e0)]) H)
    (hM : Met l yy ws' rm (va_Pc [.ref q] (XCp D y q (q + 1) e0)) (XCq D q (q + 1) n w1) n ms (XF q (q + 1))) (hws : ws' = .code yy bytes maxL none :: lwT) (hcode : Cond.code yy bytes maxL none ∈ lwT) (h1 : va_Nw (.methodLinkNest own index yy host) s) (h2 : Cond.instanceMethod yy ∈ lwT) (h4 : Cond.initialized yy.cls ∈ lwT) (hn1 : yy.name = "<init>") (hrm : rm.cells = n ∧ rm.slots = ms) (hd : yy.cls ≠ "java/lang/invoke/MethodHandle" ∧ yy.cls ≠ "java/lang/invoke/VarHandle" ∧ (parseMethodDescriptor yy.desc).map (fun d => d.parameters.length) = some 0) (hR : rm.frames + 1 ≤ R.frames ∧ 8 + (maxL + 11) + rm.locals ≤ R.locals) (hrest : (rest.map fun v => v.category).sum ≤ 8) (hdg : decode cc pc = .ok (.invokespecial index, 3)) (hf : cells + n ≤ R.cells ∧ slots + ms ≤ R.slots) :
    va_Run p l e R s m args below meth c H locs cells slots n ms (F0 m pc ls (.ref q :: rest)) rest (XCq D q (q + 1) n w1 [Value.ref q].toArray) (XF q (q + 1)) := by
  have hP1 : va_P D vwCl [(q, e0)] H := fun k x hx => hP (ws.length + k) x (by rw [List.getElem?_append_right (by omega)]; simpa using hx)
  exact va_runIN (As := []) C0 hM ⟨va_cnB 0 C0.2.2.2.2 (fun w h => ⟨x_good hws hcode w h, lwT_good w (x_good hws hcode w h)⟩) hws hrm.1 hrm.2 h1 (C0.2.2.2.2 _ h4) hd hR, hn1, C0.2.2.2.2 _ h2⟩ ⟨fun _ _ _ _ z => ⟨z.1, z.2.1, z.2.2.1, z.2.2.2.calling⟩, fun U hU hW => ⟨rfl, by rw [hU]; exact hq, by rw [hU]; exact hP1, hK.warm hW⟩⟩ rfl rfl hl rfl (lv_room hrest) hdg hf
theorem y_vret {h sz n ms : Nat} {w1 : va_W} (C0 : CallFix p m c cc nL s args lwT own) (hlocks : meth.locks = false) (hr : meth.sig.returnType = none) (hP : va_P D vwCl w1 H) (hS : va_S (XF h sz) s.heap H locs) (hz : H.size = sz + n) (hdg : decode cc pc = .ok (.return_, 1)) : W p l e R s m args below meth c H locs n ms (MQ below (XCq D h sz n w1) args s n ms (XF h sz)) (F0 m pc ls []) :=
  W.vret C0.1 C0.2.1 hr (fun t ht hW => ⟨⟨(), rfl, trivial, by rw [ht]; exact hz, by rw [ht]; exact hP⟩, hS.F ht⟩) hS.2.2 hdg
end XCT
theorem y_met {l : Launch} {D : va_G} {y : Nat → ClassId} {h sz n ms : Nat} {e0 : va_E} {w1 : va_W} {yy : MethodName} {ws : List Cond} {rm : Room} {bytes : ByteArray} {maxL : Nat} {own : String} (hy : plainName yy.cls = true) (hown : yy.cls = own) (hws : ws = .code yy bytes maxL none :: lwT) (hlen : (lg_sl [Value.ref h]).length ≤ maxL)
    (body : ∀ (p : Program) (e : Env) (s : State) (m : MethodId) (below : List Frame) (meth : Method) (c : Code) (ls : Array Slot), CallFix p m c bytes maxL s [Value.ref h].toArray lwT own → XK D y s → meth.locks = false → meth.sig.returnType = none → meth.name = yy.name → s.heap.size = sz → va_P D vwCl [(h, e0)] s.heap → va_D (XF h sz) [(h, e0)] → va_S (XF h sz) s.heap s.heap [] → (∀ q, s.heap.size ≤ q → XF h sz q) → lv_has ls maxL [(0, .ref h)] →
      W p l e (headSpec ws rm).room s m [Value.ref h].toArray below meth c s.heap [] 0 0 (MQ below (XCq D h sz n w1) [Value.ref h].toArray s n ms (XF h sz)) (F0 m 0 ls [])) : Met l yy ws rm (va_Pc [.ref h] (XCp D y h sz e0)) (XCq D h sz n w1) n ms (XF h sz) := by
  refine Met.ofW (cc := bytes) (maxL := maxL) (ret := none) hy hws ?_
  intro p e s m args below meth c s₁ B hml hv
  obtain ⟨rfl, hsz, hP, hK⟩ := hv
  have hl := lv_entry [Value.ref h] (n := maxL) hlen
  have hown2 : s.vm.findClass yy.cls = some m.cls := findClass_of_methodNamed B.named
  rw [hown] at hown2
  rw [lg_entry_eq]
  refine body p e s m below meth c _ ⟨B.exec, B.bytes, hml, hown2, fun w h => atoms_spec (ws := ws) B.pre w (by rw [hws]; exact List.mem_cons_of_mem _ h)⟩ hK B.notSynchronized B.returns (name_of_methodNamed B.named B.method).1 hsz hP ⟨fun i j p q hi hj _ => ?_, fun k q hk => ?_⟩ va_S.rf (fun q h => Or.inr (by omega)) hl
  · have h1 : i < 1 := (List.getElem?_eq_some_iff.mp hi).1
    have h2 : j < 1 := (List.getElem?_eq_some_iff.mp hj).1
    omega
  · have h1 : k < 1 := (List.getElem?_eq_some_iff.mp hk).1
    rw [show k = 0 by omega] at hk
    cases hk
    exact Or.inl rfl
