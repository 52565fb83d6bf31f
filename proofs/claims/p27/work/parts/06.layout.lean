/-! loops over the world; the two layouts -/
section XLO
variable {p : Program} {l : Launch} {e : Env} {R : Room} {s : State} {m : MethodId} {args : Array Value} {below : List Frame} {meth : Method} {c : Code} {H : Heap} {locs : List Loc} {Q : State → Prop}
variable {cc : ByteArray} {nL pc : Nat} {own : String} {ls : Array Slot} {rest : List Value} {D : va_G} {y : Nat → ClassId} {ad : Nat → Nat} {L : XL} {N : Nat} {σ : S}
variable {cells slots : Nat}
def XG (p : Program) (l : Launch) (e : Env) (R : Room) (s : State) (m : MethodId) (args : Array Value) (below : List Frame) (meth : Method) (c : Code) (cells slots : Nat) (D : va_G) (y : Nat → ClassId) (ad : Nat → Nat) (L : XL) (N nL : Nat) (Q : State → Prop) (pc : Nat) (u : S) (lv : List (Nat × Value)) : Prop :=
  ∀ (H : Heap) (locs : List Loc) (ls : Array Slot), XH D y ad L N u s.heap H locs → lv_has ls nL lv → W p l e R s m args below meth c H locs cells slots Q (F0 m pc ls [])
theorem X_loop {α : Type} {step : α → Option (α ⊕ α)} {xpc : Nat} {fu : α → S} {fl : α → List (Nat × Value)}
    (hs : ∀ (a : α) (r : α ⊕ α), step a = some r → (∀ b, r = .inl b → XG p l e R s m args below meth c cells slots D y ad L N nL Q xpc (fu b) (fl b)) → (∀ b, r = .inr b → XG p l e R s m args below meth c cells slots D y ad L N nL Q pc (fu b) (fl b)) → ∀ (H : Heap) (locs : List Loc) (ls : Array Slot), XH D y ad L N (fu a) s.heap H locs → lv_has ls nL (fl a) → W p l e R s m args below meth c H locs cells slots Q (F0 m pc ls []))
    {n : Nat} {a b : α} (h : lp step n a = some b) (hE : ∀ (H : Heap) (locs : List Loc) (ls : Array Slot), XH D y ad L N (fu b) s.heap H locs → lv_has ls nL (fl b) → W p l e R s m args below meth c H locs cells slots Q (F0 m xpc ls []))
    (hw : XH D y ad L N (fu a) s.heap H locs) (hl : lv_has ls nL (fl a)) : W p l e R s m args below meth c H locs cells slots Q (F0 m pc ls []) :=
  W_loop (G := fun a => XG p l e R s m args below meth c cells slots D y ad L N nL Q pc (fu a) (fl a)) (E := fun b => XG p l e R s m args below meth c cells slots D y ad L N nL Q xpc (fu b) (fl b)) hs n a b h hE H locs ls hw hl
theorem X_loopR {α ρ : Type} {step : α → Option ((ρ ⊕ α) ⊕ α)} {xpc : Nat} {fu : α → S} {fl : α → List (Nat × Value)} {o : ρ}
    (hs : ∀ (a : α) (r : (ρ ⊕ α) ⊕ α), step a = some r → (∀ x, r = .inl (.inl x) → x = o) → (∀ b, r = .inl (.inr b) → XG p l e R s m args below meth c cells slots D y ad L N nL Q xpc (fu b) (fl b)) → (∀ b, r = .inr b → XG p l e R s m args below meth c cells slots D y ad L N nL Q pc (fu b) (fl b)) → ∀ (H : Heap) (locs : List Loc) (ls : Array Slot), XH D y ad L N (fu a) s.heap H locs → lv_has ls nL (fl a) → W p l e R s m args below meth c H locs cells slots Q (F0 m pc ls []))
    {n : Nat} {a : α} {b : ρ ⊕ α} (h : lp step n a = some b) (hX : ∀ x, b = .inl x → x = o) (hE : ∀ b', b = .inr b' → ∀ (H : Heap) (locs : List Loc) (ls : Array Slot), XH D y ad L N (fu b') s.heap H locs → lv_has ls nL (fl b') → W p l e R s m args below meth c H locs cells slots Q (F0 m xpc ls []))
    (hw : XH D y ad L N (fu a) s.heap H locs) (hl : lv_has ls nL (fl a)) : W p l e R s m args below meth c H locs cells slots Q (F0 m pc ls []) :=
  W_loop (G := fun a => XG p l e R s m args below meth c cells slots D y ad L N nL Q pc (fu a) (fl a)) (E := fun b => (∀ x, b = .inl x → x = o) ∧ ∀ b', b = .inr b' → XG p l e R s m args below meth c cells slots D y ad L N nL Q xpc (fu b') (fl b'))
    (fun a r h1 h2 h3 => hs a r h1 (fun x hx => (h2 _ hx).1 x rfl) (fun b hb => (h2 _ hb).2 b rfl) h3) n a b h ⟨hX, hE⟩ H locs ls hw hl
theorem x_backp (hw : XH D y ad L N σ s.heap H locs) {st0 : List Value} {a : Array Value} {o : Int32} (hr : va_Run p l e R s m args below meth c H locs cells slots 0 0 (F0 m pc ls st0) rest (XQi D y ad L N (o, σ) a) (XA ad N))
    (kk : ∀ (H1 : Heap) (locs1 : List Loc), XH D y ad L N σ s.heap H1 locs1 → W p l e R s m args below meth c H1 locs1 cells slots Q (F0 m (pc + 3) ls (.int o :: rest))) : W p l e R s m args below meth c H locs cells slots Q (F0 m pc ls st0) := x_back hw hr kk
/-- one array over another, from 0 on -/
def cpA (u : S) (j0 j1 n : Nat) : S := (fun a b => if a = j1 ∧ b < n then u.1 j0 b else u.1 a b, u.2)
theorem x_copy (hI : XI ad N) (C0 : CallFix p m c cc nL s args lwT own) (hK : XK D y s) (hw : XH D y ad L N σ s.heap H locs) (hl : ls.size = nL) {index : Nat} (h1 : Cond.methodLink own index arraycopyName ∈ lwT) (h2 : Cond.native arraycopyName ∈ lwT) (h3 : Cond.static arraycopyName ∈ lwT) (h4 : Cond.initialized "java/lang/System" ∈ lwT)
    {j0 j1 n0 n1 : Nat} {r0 r1 : Nat → Nat} (hj0 : j0 < N) (hL0 : L j0 = (0, n0, r0)) (hj1 : j1 < N) (hL1 : L j1 = (0, n1, r1)) {n : Int32} {k : Nat} (hn : ¬ n < 0) (hnk : n.toNatClampNeg = k ∧ k ≤ n0 ∧ k ≤ n1) {σ' : S} (es : σ' = cpA σ j0 j1 k) (hz : (0 : Int32).toNatClampNeg = 0) (hfr : 1 ≤ R.frames) (hlo : (rest.map fun v => v.category).sum + (nativeFrameWords "java/lang/System" "arraycopy" 5 + 11) ≤ R.locals) (hdg : decode cc pc = .ok (.invokestatic index, 3))
    (kk : ∀ (H1 : Heap) (locs1 : List Loc), XH D y ad L N σ' s.heap H1 locs1 → W p l e R s m args below meth c H1 locs1 0 0 Q (F0 m (pc + 3) ls rest)) : W p l e R s m args below meth c H locs 0 0 Q (F0 m pc ls (.int n :: .int 0 :: .ref (ad j1) :: .int 0 :: .ref (ad j0) :: rest)) := by
  refine va_copyi C0.1 C0.2.1 (C0.2.2.1.trans hl.symm) C0.2.2.2.1 (C0.2.2.2.2 _ h1) (C0.2.2.2.2 _ h2) (C0.2.2.2.2 _ h3) (C0.2.2.2.2 _ h4) hK.1 hw.1 (xD hI) hw.2 j0 j1 0 0 (x_arr0 hj0 hL0) (x_arr0 hj1 hL1) rfl rfl rfl (by decide) (by decide) hn (by rw [hz, hnk.1]; omega) (by rw [hz, hnk.1]; omega) (fun _ _ => rfl) hfr hlo hdg (fun H1 locs1 a1 _ a3 => ?_)
  refine kk H1 locs1 ⟨?_, a3⟩
  have hset : (wx y ad L N σ).set j1 (ad j1, .inl (y 0, n1, .inl (va_cpy (σ.1 j0) (σ.1 j1) (0 : Int32).toNatClampNeg (0 : Int32).toNatClampNeg n.toNatClampNeg))) = wx y ad L N σ' := by
    rw [es, hz, hnk.1]
    rw [← wx_set (s := σ) (s' := cpA σ j0 j1 k) (j := j1) (fun i hi => ?_)]
    · congr 2
      have h1 : va_cpy (σ.1 j0) (σ.1 j1) 0 0 k = (cpA σ j0 j1 k).1 j1 := by
        funext b
        simp [va_cpy, cpA]
      simp [xc, hL1, h1]
    · have h1 : (cpA σ j0 j1 k).1 i = σ.1 i := by
        funext b
        simp [cpA, hi]
      have h2 : ∀ (a : Nat) (t : Nat), xv ad (cpA σ j0 j1 k) i a t = xv ad σ i a t := by
        intro a t
        match t with
        | 0 => simp [xv, h1]
        | 1 => simp [xv, cpA]
        | c + 2 => simp [xv]
      simp only [xc, h1, h2]
  exact hset ▸ a1
end XLO
theorem if_t {α : Type} {c : Prop} [Decidable c] {a b : Option α} {r : α} (h : (if c then a else b) = some r) (hc : c) : a = some r := by rwa [if_pos hc] at h
theorem if_f {α : Type} {c : Prop} [Decidable c] {a b : Option α} {r : α} (h : (if c then a else b) = some r) (hc : ¬ c) : b = some r := by rwa [if_neg hc] at h
theorem sum_r {α β γ : Type} {f : α → γ} {g : β → γ} {b : β} {r : γ} (h : Sum.elim f g (.inr b) = r) : g b = r := h
def ol (o : Nat) : Nat := if o % 2 = 0 then 12 else 4
/-- the class's world: 132 trays, 11 boxes (0 the box, 1 to 8 the ring, 9 the trial, 10 the text's), their rows, 2 finders, their tops, and what is there once -/
def LX : XL := fun j =>
  if j < 132 then (9, 14, fun _ => 0)
  else if j < 143 then (4, 6, fun k => if k = 5 then 143 + (j - 132) + 2 else 0)
  else if j < 154 then (3, 12, fun i => 12 * (j - 143) + i)
  else if j < 156 then (5, 9, fun k => if k = 0 then 156 + (j - 154) + 2 else 0)
  else if j < 158 then (0, 100, fun _ => 0)
  else if j = 158 then (6, 3, fun k => if k = 2 then 159 + 2 else 0)
  else if j = 159 then (2, 8, fun i => 132 + (1 + i))
  else if j = 160 then (8, 6, fun k => if k = 2 then 132 + 10 + 2 else if k = 3 then 161 + 2 else 0)
  else if j = 161 then (1, 100, fun _ => 0)
  else if j = 162 then (7, 6, fun k => if k = 0 then 163 + 0 + 2 else if k = 1 then 163 + 1 + 2 else if k = 2 then 132 + 9 + 2 else if k = 3 then 163 + 2 + 2 else if k = 4 then 163 + 3 + 2 else 154 + 1 + 2)
  else if j < 167 then (0, ol (j - 163), fun _ => 0)
  else (10, 5, fun k => if k = 0 then 132 + 0 + 2 else if k = 1 then 158 + 2 else if k = 2 then 160 + 2 else if k = 3 then 154 + 0 + 2 else 162 + 2)
theorem ly_T {j : Nat} (h : j < 132) : LX j = (5 + 4, 14, fun _ => 0) := by simp [LX, h]
theorem ly_B {b : Nat} (h : b < 11) : LX (132 + b) = (0 + 4, 6, fun k => if k = 5 then 143 + b + 2 else 0) := by
  simp only [LX]
  rw [if_neg (by omega), if_pos (by omega), Nat.add_sub_cancel_left]
theorem ly_R {b : Nat} (h : b < 11) : LX (143 + b) = (3, 12, fun i => 12 * b + i) := by
  simp only [LX]
  rw [if_neg (by omega), if_neg (by omega), if_pos (by omega), Nat.add_sub_cancel_left]
theorem ly_F {b : Nat} (h : b < 2) : LX (154 + b) = (1 + 4, 9, fun k => if k = 0 then 156 + b + 2 else 0) := by
  simp only [LX]
  rw [if_neg (by omega), if_neg (by omega), if_neg (by omega), if_pos (by omega), Nat.add_sub_cancel_left]
theorem ly_G {b : Nat} (h : b < 2) : LX (156 + b) = (0, 100, fun _ => 0) := by
  simp only [LX]
  rw [if_neg (by omega), if_neg (by omega), if_neg (by omega), if_neg (by omega), if_pos (by omega)]
theorem ly_H : LX 158 = (2 + 4, 3, fun k => if k = 2 then 159 + 2 else 0) := rfl
theorem ly_Q : LX 159 = (2, 8, fun i => 132 + (1 + i)) := rfl
theorem ly_X : LX 160 = (4 + 4, 6, fun k => if k = 2 then 132 + 10 + 2 else if k = 3 then 161 + 2 else 0) := rfl
theorem ly_Y : LX 161 = (1, 100, fun _ => 0) := rfl
theorem ly_P : LX 162 = (3 + 4, 6, fun k => if k = 0 then 163 + 0 + 2 else if k = 1 then 163 + 1 + 2 else if k = 2 then 132 + 9 + 2 else if k = 3 then 163 + 2 + 2 else if k = 4 then 163 + 3 + 2 else 154 + 1 + 2) := rfl
theorem ly_O {b : Nat} (h : b < 4) : LX (163 + b) = (0, ol b, fun _ => 0) := by
  simp only [LX]
  rw [if_neg (by omega), if_neg (by omega), if_neg (by omega), if_neg (by omega), if_neg (by omega), if_neg (by omega), if_neg (by omega), if_neg (by omega), if_neg (by omega), if_neg (by omega), if_pos (by omega), Nat.add_sub_cancel_left]
theorem ly_M : LX 167 = (6 + 4, 5, fun k => if k = 0 then 132 + 0 + 2 else if k = 1 then 158 + 2 else if k = 2 then 160 + 2 else if k = 3 then 154 + 0 + 2 else 162 + 2) := rfl
theorem jy_T {j : Nat} (h : j < 132) : j < 168 := by omega
theorem jy_B {b : Nat} (h : b < 11) : 132 + b < 168 := by omega
theorem jy_R {b : Nat} (h : b < 11) : 143 + b < 168 := by omega
theorem jy_F {b : Nat} (h : b < 2) : 154 + b < 168 := by omega
theorem jy_G {b : Nat} (h : b < 2) : 156 + b < 168 := by omega
theorem jy_O {b : Nat} (h : b < 4) : 163 + b < 168 := by omega
theorem tb {b i : Nat} (h : b < 11) (hi : i < 12) : 12 * b + i < 132 := by omega
theorem rb {i : Nat} (hi : i < 8) : 1 + i < 11 := by omega
