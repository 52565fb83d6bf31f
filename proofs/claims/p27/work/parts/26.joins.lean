/-! where two ways meet; a method's entry with cells of its own; the script; a loop that makes cells; a new object -/
section ZJ
variable {p : Program} {l : Launch} {e : Env} {R : Room} {s : State} {m : MethodId} {args : Array Value} {below : List Frame} {meth : Method} {c : Code} {H : Heap} {locs : List Loc} {cells slots : Nat} {Q : State → Prop}
variable {cc : ByteArray} {nL pc : Nat} {own : String} {ls : Array Slot} {rest : List Value} {D : va_G} {y : Nat → ClassId} {ad : Nat → Nat} {L LZ : XL} {M N NZ : Nat} {σ : S}
def XJ (p : Program) (l : Launch) (e : Env) (R : Room) (s : State) (m : MethodId) (args : Array Value) (below : List Frame) (meth : Method) (c : Code) (cells slots : Nat) (D : va_G) (y : Nat → ClassId) (ad : Nat → Nat) (L : XL) (N : Nat) (Q : State → Prop) (pc : Nat) (u : S) (ls : Array Slot) (st : List Value) : Prop :=
  ∀ (H : Heap) (locs : List Loc), XH D y ad L N u s.heap H locs → W p l e R s m args below meth c H locs cells slots Q (F0 m pc ls st)
theorem X_join {xpc : Nat} {j : Int32} {st st0 : List Value} (hw : XH D y ad L N σ s.heap H locs)
    (h : XJ p l e R s m args below meth c cells slots D y ad L N Q xpc σ ls (.int j :: st) → W p l e R s m args below meth c H locs cells slots Q (F0 m pc ls st0))
    (k : ∀ (H : Heap) (locs : List Loc), XH D y ad L N σ s.heap H locs → W p l e R s m args below meth c H locs cells slots Q (F0 m xpc ls (.int j :: st))) : W p l e R s m args below meth c H locs cells slots Q (F0 m pc ls st0) := h k
theorem X_joinS {xpc : Nat} {j : Int32 × S} {st st0 : List Value} (_ : XH D y ad L N σ s.heap H locs)
    (h : XJ p l e R s m args below meth c cells slots D y ad L N Q xpc j.2 ls (.int j.1 :: st) → W p l e R s m args below meth c H locs cells slots Q (F0 m pc ls st0))
    (k : ∀ (H : Heap) (locs : List Loc), XH D y ad L N j.2 s.heap H locs → W p l e R s m args below meth c H locs cells slots Q (F0 m xpc ls (.int j.1 :: st))) : W p l e R s m args below meth c H locs cells slots Q (F0 m pc ls st0) := h k
theorem X_leaf {xpc : Nat} {j a : Int32} {st : List Value} (hE : XJ p l e R s m args below meth c cells slots D y ad L N Q xpc σ ls (.int j :: st)) (h : a = j) (hw : XH D y ad L N σ s.heap H locs) : W p l e R s m args below meth c H locs cells slots Q (F0 m xpc ls (.int a :: st)) := by
  subst h
  exact hE H locs hw
theorem X_leafS {xpc : Nat} {j : Int32 × S} {a : Int32} {st : List Value} (hE : XJ p l e R s m args below meth c cells slots D y ad L N Q xpc j.2 ls (.int j.1 :: st)) (h : (a, σ) = j) (hw : XH D y ad L N σ s.heap H locs) : W p l e R s m args below meth c H locs cells slots Q (F0 m xpc ls (.int a :: st)) := by
  subst h
  exact hE H locs hw
theorem X_loopRC {C1 S1 dc ds : Nat} {α ρ : Type} {step : α → Option ((ρ ⊕ α) ⊕ α)} {xpc : Nat} {fu : α → S} {fl : α → List (Nat × Value)} {o : ρ}
    (hs : ∀ (cells slots : Nat) (a : α) (r : (ρ ⊕ α) ⊕ α), step a = some r → cells + dc ≤ C1 → slots + ds ≤ S1 → (∀ x, r = .inl (.inl x) → x = o) → (∀ b, r = .inl (.inr b) → XG p l e R s m args below meth c C1 S1 D y ad L N nL Q xpc (fu b) (fl b)) → (∀ b, r = .inr b → XG p l e R s m args below meth c (cells + dc) (slots + ds) D y ad L N nL Q pc (fu b) (fl b)) → ∀ (H : Heap) (locs : List Loc) (ls : Array Slot), XH D y ad L N (fu a) s.heap H locs → lv_has ls nL (fl a) → W p l e R s m args below meth c H locs cells slots Q (F0 m pc ls [])) :
    ∀ {n : Nat} {cells slots : Nat} {a : α} {b : ρ ⊕ α}, lp step n a = some b → (∀ x, b = .inl x → x = o) → (∀ b', b = .inr b' → ∀ (H : Heap) (locs : List Loc) (ls : Array Slot), XH D y ad L N (fu b') s.heap H locs → lv_has ls nL (fl b') → W p l e R s m args below meth c H locs C1 S1 Q (F0 m xpc ls [])) → cells + n * dc ≤ C1 → slots + n * ds ≤ S1 →
    ∀ {H : Heap} {locs : List Loc} {ls : Array Slot}, XH D y ad L N (fu a) s.heap H locs → lv_has ls nL (fl a) → W p l e R s m args below meth c H locs cells slots Q (F0 m pc ls []) := by
  intro n
  induction n with
  | zero => intro cells slots a b h; cases h
  | succ n ih =>
    intro cells slots a b h hX hE hc hsl H locs ls hw hl
    rw [Nat.succ_mul] at hc hsl
    obtain ⟨r, h1, h2⟩ := bd_e (h : (step a).bind _ = some b)
    refine hs cells slots a r h1 (by omega) (by omega) (fun x hx => ?_) (fun b' hb => ?_) (fun a' ha => ?_) H locs ls hw hl
    · subst hx
      exact hX x (Option.some.inj h2).symm
    · subst hb
      exact hE b' (Option.some.inj h2).symm
    · subst ha
      exact fun H locs ls hw hl => ih h2 hX hE (by omega) (by omega) hw hl
/-- the end of a method that has made cells of its own, its addresses told anew -/
theorem z_zretN {ad' : Nat → Nat} (hE : Emb 0 L LZ M NZ) (hnew : ∀ j, M ≤ j → j < NZ → s.heap.size ≤ ad j) (hd : ∀ j, j < M → ad' j = ad j) (C0 : CallFix p m c cc nL s args lwT own) (hK : XK D y s) (hlocks : meth.locks = false) (hr : meth.sig.returnType = some .boolean) (hw : XH D y ad LZ NZ σ s.heap H locs) {v : Int32} {q : Int32 × S} (hb : isb v = true) (ho : (v, σ) = q) (hdg : decode cc pc = .ok (.ireturn, 1)) : W p l e R s m args below meth c H locs cells slots (MQ below (XQi D y ad' L M q) args s cells slots (XA ad' M)) (F0 m pc ls [.int v]) :=
  z_forget (locs' := oldL s locs) (fun x hx h => List.mem_filter.mpr ⟨hx, decide_eq_true h⟩) (x_zret C0 hK hlocks hr (z_cg hE.2.1 hd (z_drop (LN := L) (N := M) hE hnew hw)) hb ho hdg)
/-- what a method finds that is given the script too -/
def XWs (D : va_G) (y : Nat → ClassId) (ad : Nat → Nat) (u : S) (b K : Nat) (xs : Nat → Int32) (U : State) : Prop := XW D y ad LX 168 u U ∧ va_X b K xs U U.heap
theorem sBlind {u : S} {b K : Nat} {xs : Nat → Int32} {av : List Value} : FrameBlind (va_Pc av (XWs D y ad u b K xs)) := fun _ U g mk q => ⟨q.1, ⟨q.2.1.1, q.2.1.2.calling⟩, va_X.moved (U := U.calling g mk _) (Vm.Alike.refl U.vm) q.2.2⟩
theorem y_runS {u : S} {b K : Nat} {xs : Nat → Int32} (C0 : CallFix p m c cc nL s args lwT own) (hK : XK D y s) (hw : XH D y ad LX 168 u s.heap H locs) (hX : va_X b K xs s s.heap) (hbl : b < s.heap.size) (hbA : ¬ XA ad 168 b) (hl : ls.size = nL) (h0 : cells + 0 ≤ R.cells ∧ slots + 0 ≤ R.slots) {yy : MethodName} {bytes : ByteArray} {maxL n index : Nat} {ret : Option FieldType} {ws' : List Cond} {rm : Room} {As : List Value} {Qc : Array Value → State → Outcome → State → Prop}
    (hM : Met l yy ws' rm (va_Pc As (XWs D y ad u b K xs)) Qc 0 0 (XA ad 168)) (hws : ws' = .code yy bytes maxL ret :: lwT) (hcode : Cond.code yy bytes maxL ret ∈ lwT) (h1 : Cond.methodLink own index yy ∈ lwT) (h2 : Cond.static yy ∈ lwT) (h4 : Cond.initialized yy.cls ∈ lwT) (hrm : rm.cells = 0 ∧ rm.slots = 0) (hd : yy.cls ≠ "java/lang/invoke/MethodHandle" ∧ yy.cls ≠ "java/lang/invoke/VarHandle" ∧ (parseMethodDescriptor yy.desc).map (fun d => d.parameters.length) = some n) (hn : As.length = n) (hR : rm.frames + 1 ≤ R.frames ∧ 8 + (maxL + 11) + rm.locals ≤ R.locals) (hrest : (rest.map fun v => v.category).sum ≤ 8) (hdg : decode cc pc = .ok (.invokestatic index, 3)) :
    va_Run p l e R s m args below meth c H locs cells slots 0 0 (F0 m pc ls (As.reverse ++ rest)) rest (Qc As.toArray) (XA ad 168) :=
  va_runS C0 hM ⟨callB_of n C0.2.2.2.2 (fun w h => ⟨x_good hws hcode w h, lwT_good w (x_good hws hcode w h)⟩) hws hrm.1 hrm.2 (C0.2.2.2.2 _ h4) (C0.2.2.2.2 _ h1) hd hR, C0.2.2.2.2 _ h2⟩ ⟨sBlind, fun U hU hW => ⟨rfl, ⟨by rw [hU]; exact hw.1, hK.warm hW⟩, by
    rw [hU]
    exact va_X.moved hW.alike (hX.kept (hw.2.2.1 b hbl hbA))⟩⟩ rfl hn hl rfl (lv_room hrest) hdg h0
theorem x_backM {mc ms : Nat} (hw : XH D y ad L N σ s.heap H locs) {st0 : List Value} {a : Array Value} {o : Int32 × S} (hr : va_Run p l e R s m args below meth c H locs cells slots mc ms (F0 m pc ls st0) rest (XQi D y ad L N o a) (XA ad N))
    (kk : ∀ (H1 : Heap) (locs1 : List Loc), XH D y ad L N o.2 s.heap H1 locs1 → W p l e R s m args below meth c H1 locs1 (cells + mc) (slots + ms) Q (F0 m (pc + 3) ls (.int o.1 :: rest))) : W p l e R s m args below meth c H locs cells slots Q (F0 m pc ls st0) :=
  va_calli hr hw.2 (fun _ _ h => h) (fun _ h => h) (fun r u t H1 locs1 ht _ hp hB _ _ hS => by
    subst hp
    exact kk H1 locs1 ⟨ht ▸ hB.1, hS⟩)
end ZJ
/-- a method's walk, from its entry -/
theorem z_met {l : Launch} {D : va_G} {y : Nat → ClassId} {ad : Nat → Nat} {L : XL} {N mc ms : Nat} {σ : S} {yy : MethodName} {ws : List Cond} {rm : Room} {bytes : ByteArray} {maxL : Nat} {ret : Option FieldType} {own : String} {av : List Value} {Qc : Array Value → State → Outcome → State → Prop} (hy : plainName yy.cls = true) (hown : yy.cls = own) (hws : ws = .code yy bytes maxL ret :: lwT) (hlen : (lg_sl av).length ≤ maxL)
    (body : ∀ (p : Program) (e : Env) (s : State) (m : MethodId) (below : List Frame) (meth : Method) (c : Code) (ls : Array Slot), CallFix p m c bytes maxL s av.toArray lwT own → XK D y s → meth.locks = false → meth.sig.returnType = ret → XH D y ad L N σ s.heap s.heap [] → lv_has ls maxL (lv_args 0 av) →
      W p l e (headSpec ws rm).room s m av.toArray below meth c s.heap [] 0 0 (MQ below Qc av.toArray s mc ms (XA ad N)) (F0 m 0 ls [])) : Met l yy ws rm (va_Pc av (XW D y ad L N σ)) Qc mc ms (XA ad N) := by
  refine Met.ofW (cc := bytes) (maxL := maxL) (ret := ret) hy hws ?_
  intro p e s m args below meth c s₁ B hml hv
  obtain ⟨rfl, hP, hK⟩ := hv
  have hl := lv_entry av (n := maxL) hlen
  have hown2 : s.vm.findClass yy.cls = some m.cls := findClass_of_methodNamed B.named
  rw [hown] at hown2
  rw [lg_entry_eq]
  exact body p e s m below meth c _ ⟨B.exec, B.bytes, hml, hown2, fun w h => atoms_spec (ws := ws) B.pre w (by rw [hws]; exact List.mem_cons_of_mem _ h)⟩ hK B.notSynchronized B.returns ⟨hP, va_S.rf⟩ hl
theorem y_metS {l : Launch} {D : va_G} {y : Nat → ClassId} {ad : Nat → Nat} {mc ms b K : Nat} {xs : Nat → Int32} {σ : S} {yy : MethodName} {ws : List Cond} {rm : Room} {bytes : ByteArray} {maxL : Nat} {ret : Option FieldType} {own : String} {av : List Value} {Qc : Array Value → State → Outcome → State → Prop} (hy : plainName yy.cls = true) (hown : yy.cls = own) (hws : ws = .code yy bytes maxL ret :: lwT) (hlen : (lg_sl av).length ≤ maxL)
    (body : ∀ (p : Program) (e : Env) (s : State) (m : MethodId) (below : List Frame) (meth : Method) (c : Code) (ls : Array Slot), CallFix p m c bytes maxL s av.toArray lwT own → XK D y s → meth.locks = false → meth.sig.returnType = ret → va_X b K xs s s.heap → b < s.heap.size → XH D y ad LX 168 σ s.heap s.heap [] → lv_has ls maxL (lv_args 0 av) →
      W p l e (headSpec ws rm).room s m av.toArray below meth c s.heap [] 0 0 (MQ below Qc av.toArray s mc ms (XA ad 168)) (F0 m 0 ls [])) : Met l yy ws rm (va_Pc av (XWs D y ad σ b K xs)) Qc mc ms (XA ad 168) := by
  refine Met.ofW (cc := bytes) (maxL := maxL) (ret := ret) hy hws ?_
  intro p e s m args below meth c s₁ B hml hv
  obtain ⟨rfl, ⟨hP, hK⟩, hX⟩ := hv
  have hl := lv_entry av (n := maxL) hlen
  have hown2 : s.vm.findClass yy.cls = some m.cls := findClass_of_methodNamed B.named
  rw [hown] at hown2
  rw [lg_entry_eq]
  have hbl : b < s.heap.size := by
    obtain ⟨scr, h1, -⟩ := hX
    exact (Array.getElem?_eq_some_iff.mp h1).1
  exact body p e s m below meth c _ ⟨B.exec, B.bytes, hml, hown2, fun w h => atoms_spec (ws := ws) B.pre w (by rw [hws]; exact List.mem_cons_of_mem _ h)⟩ hK B.notSynchronized B.returns hX hbl ⟨hP, va_S.rf⟩ hl
