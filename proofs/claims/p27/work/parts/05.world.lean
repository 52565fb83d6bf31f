/-! THE WORLD: N cells, a layout, and their contents as numbers: S -/
abbrev S : Type := (Nat → Nat → Int32) × Int64
def up (s : S) (j k : Nat) (v : Int32) : S := (fun a b => if a = j ∧ b = k then v else s.1 a b, s.2)
def uh (s : S) (h : Int64) : S := (s.1, h)
theorem up_ne (s : S) (j k : Nat) (v : Int32) {a : Nat} (h : a ≠ j) : (up s j k v).1 a = s.1 a := by
  funext b
  simp [up, h]
/-- layout: a tag (0 int[], 1 char[], 2 Box[], 3 Tray[], c + 4 an object of class c), how many places, and what a place is (0 a number, 1 a long, c + 2 the cell c) -/
abbrev XL : Type := Nat → Nat × Nat × (Nat → Nat)
def xv (ad : Nat → Nat) (s : S) (j k : Nat) : Nat → Value
  | 0 => .int (s.1 j k)
  | 1 => .long s.2
  | c + 2 => .ref (ad c)
def xc (y : Nat → ClassId) (ad : Nat → Nat) (L : XL) (s : S) (j : Nat) : va_E :=
  if (L j).1 = 0 then .inl (y 0, (L j).2.1, .inl (s.1 j))
  else if (L j).1 = 1 then .inl (y 1, (L j).2.1, .inl (s.1 j))
  else if (L j).1 = 2 then .inl (y 2, (L j).2.1, .inr (.inr (.inr (.inr (fun i => some (ad ((L j).2.2 i)))))))
  else if (L j).1 = 3 then .inl (y 3, (L j).2.1, .inr (.inr (.inr (.inr (fun i => some (ad ((L j).2.2 i)))))))
  else .inr ((L j).1 - 4, (List.range (L j).2.1).map (fun k => xv ad s j k ((L j).2.2 k)))
def wx (y : Nat → ClassId) (ad : Nat → Nat) (L : XL) (N : Nat) (s : S) : va_W := (List.range N).map (fun j => (ad j, xc y ad L s j))
theorem wx_at {y : Nat → ClassId} {ad : Nat → Nat} {L : XL} {N : Nat} {s : S} {j : Nat} (h : j < N) : (wx y ad L N s)[j]? = some (ad j, xc y ad L s j) := by
  simp [wx, h]
theorem wx_get {y : Nat → ClassId} {ad : Nat → Nat} {L : XL} {N : Nat} {s : S} {j : Nat} {q : Nat × va_E} (h : (wx y ad L N s)[j]? = some q) : j < N ∧ q = (ad j, xc y ad L s j) := by
  have hl : j < N := by
    have := (List.getElem?_eq_some_iff.mp h).1
    simpa [wx] using this
  rw [wx_at hl] at h
  exact ⟨hl, (Option.some.inj h).symm⟩
theorem wx_set {y : Nat → ClassId} {ad : Nat → Nat} {L : XL} {N : Nat} {s s' : S} {j : Nat} (ho : ∀ i, i ≠ j → xc y ad L s' i = xc y ad L s i) : (wx y ad L N s).set j (ad j, xc y ad L s' j) = wx y ad L N s' := by
  apply List.ext_getElem?
  intro i
  by_cases hi : i = j
  · subst hi
    by_cases hl : i < N
    · rw [List.getElem?_set_self (by simpa [wx] using hl), wx_at hl]
    · rw [List.getElem?_eq_none (by simpa [wx] using Nat.le_of_not_lt hl), List.getElem?_eq_none (by simpa [wx] using Nat.le_of_not_lt hl)]
  · rw [List.getElem?_set_ne (Ne.symm hi)]
    by_cases hl : i < N
    · rw [wx_at hl, wx_at hl, ho i hi]
    · rw [List.getElem?_eq_none (by simpa [wx] using Nat.le_of_not_lt hl), List.getElem?_eq_none (by simpa [wx] using Nat.le_of_not_lt hl)]
theorem xc_up {y : Nat → ClassId} {ad : Nat → Nat} {L : XL} {s : S} {j k : Nat} {v : Int32} : ∀ i, i ≠ j → xc y ad L (up s j k v) i = xc y ad L s i := by
  intro i hi
  have h1 := up_ne s j k v hi
  have h2 : ∀ (a : Nat) (t : Nat), xv ad (up s j k v) i a t = xv ad s i a t := by
    intro a t
    match t with
    | 0 => simp [xv, h1]
    | 1 => simp [xv, up]
    | c + 2 => simp [xv]
  simp only [xc, h1, h2]
def XI (ad : Nat → Nat) (N : Nat) : Prop := ∀ i j, i < N → j < N → ad i = ad j → i = j
def XA (ad : Nat → Nat) (N : Nat) : Nat → Prop := fun q => ∃ j, j < N ∧ q = ad j
theorem xD {y : Nat → ClassId} {ad : Nat → Nat} {L : XL} {N : Nat} {s : S} (h : XI ad N) : va_D (XA ad N) (wx y ad L N s) := by
  refine ⟨fun i j p q hi hj hpq => ?_, fun k q hk => ?_⟩
  · obtain ⟨h1, rfl⟩ := wx_get hi
    obtain ⟨h2, rfl⟩ := wx_get hj
    exact h i j h1 h2 hpq
  · obtain ⟨h1, rfl⟩ := wx_get hk
    exact ⟨k, h1, rfl⟩
def xT (y : Nat → ClassId) : List (ClassId × FieldType) := [(y 0, .int), (y 1, .char), (y 2, .object "TrayBox$Box"), (y 3, .object "TrayBox$Tray")]
def xN0 : Cond := .methodLinkNest RX0 30 yX5_init "TrayBox"
def xN1 : Cond := .methodLinkNest RX6 25 yX4_init "TrayBox"
def xN2 : Cond := .methodLinkNest RX6 32 yX1_init "TrayBox"
def xN3 : Cond := .methodLinkNest RX6 39 yX3_init "TrayBox"
def xN4 : Cond := .methodLinkNest RX3 33 yX1_init "TrayBox"
def XK (D : va_G) (y : Nat → ClassId) (s : State) : Prop := va_K D vwCl (xT y) s ∧ (va_Nw xN0 s ∧ va_Nw xN1 s ∧ va_Nw xN2 s ∧ va_Nw xN3 s ∧ va_Nw xN4 s) ∧ va_AO "TrayBox$Tray" s ∧ va_AO "TrayBox$Box" s
theorem XK.warm {D : va_G} {y : Nat → ClassId} {s U : State} (h : XK D y s) (hW : s.WarmedH U.vm) : XK D y U :=
  ⟨va_K.moved hW.alike h.1, ⟨va_Nw.warmM hW h.2.1.1, va_Nw.warmM hW h.2.1.2.1, va_Nw.warmM hW h.2.1.2.2.1, va_Nw.warmM hW h.2.1.2.2.2.1, va_Nw.warmM hW h.2.1.2.2.2.2⟩, va_AO.moved hW.alike h.2.2.1, va_AO.moved hW.alike h.2.2.2⟩
theorem XK.calling {D : va_G} {y : Nat → ClassId} {U : State} {g : JFrame} {mk : MethodId} {a : Array Value} (h : XK D y U) : XK D y (U.calling g mk a) :=
  ⟨va_K.moved (u := U) (U := U.calling g mk a) (Vm.Alike.refl U.vm) h.1, ⟨va_Nw.same rfl (u := U) (U := U.calling g mk a) rfl h.2.1.1, va_Nw.same rfl (u := U) (U := U.calling g mk a) rfl h.2.1.2.1, va_Nw.same rfl (u := U) (U := U.calling g mk a) rfl h.2.1.2.2.1, va_Nw.same rfl (u := U) (U := U.calling g mk a) rfl h.2.1.2.2.2.1, va_Nw.same rfl (u := U) (U := U.calling g mk a) rfl h.2.1.2.2.2.2⟩, va_AO.moved (u := U) (U := U.calling g mk a) (Vm.Alike.refl U.vm) h.2.2.1, va_AO.moved (u := U) (U := U.calling g mk a) (Vm.Alike.refl U.vm) h.2.2.2⟩
def XH (D : va_G) (y : Nat → ClassId) (ad : Nat → Nat) (L : XL) (N : Nat) (σ : S) (H0 H : Heap) (locs : List Loc) : Prop := va_P D vwCl (wx y ad L N σ) H ∧ va_S (XA ad N) H0 H locs
def XW (D : va_G) (y : Nat → ClassId) (ad : Nat → Nat) (L : XL) (N : Nat) (σ : S) (U : State) : Prop := va_P D vwCl (wx y ad L N σ) U.heap ∧ XK D y U
theorem xBlind {D : va_G} {y : Nat → ClassId} {ad : Nat → Nat} {L : XL} {N : Nat} {σ : S} {av : List Value} : FrameBlind (va_Pc av (XW D y ad L N σ)) := fun _ _ _ _ q => ⟨q.1, q.2.1, q.2.2.calling⟩
/-- what a method leaves: a number and a state; a long and a state; a state -/
def XQi (D : va_G) (y : Nat → ClassId) (ad : Nat → Nat) (L : XL) (N : Nat) (o : Int32 × S) : Array Value → State → Outcome → State → Prop := va_Qi (fun (r : Int32) (u : S) => (r, u) = o) (XW D y ad L N) (XA ad N)
def XQl (D : va_G) (y : Nat → ClassId) (ad : Nat → Nat) (L : XL) (N : Nat) (o : Int64 × S) : Array Value → State → Outcome → State → Prop := va_Ql (fun (r : Int64) (u : S) => (r, u) = o) (XW D y ad L N) (XA ad N)
def XQv (D : va_G) (y : Nat → ClassId) (ad : Nat → Nat) (L : XL) (N : Nat) (o : S) : Array Value → State → Outcome → State → Prop := va_Qv (fun (u : S) => u = o) (XW D y ad L N) (XA ad N)
def inb (i : Int32) (n : Nat) : Bool := decide (¬ (i < 0 ∨ n ≤ i.toNatClampNeg))
theorem inb_in {i : Int32} {n : Nat} (h : inb i n = true) : vp_in i n := by simpa [inb, vp_in] using h
theorem inb_lt {i : Int32} {n : Nat} (h : inb i n = true) : i.toNatClampNeg < n := Nat.not_le.mp fun q => inb_in h (Or.inr q)
def isb (v : Int32) : Bool := v == 0 || v == 1
theorem isb_narrow {v : Int32} (h : isb v = true) : narrow .boolean (.int v) = .int v := by
  simp only [isb, Bool.or_eq_true, beq_iff_eq] at h
  rcases h with rfl | rfl <;> rfl
theorem isb_fits {v : Int32} (h : isb v = true) : fits .boolean (.int v) = true := h
/-- a guard -/
def gd {α : Type} (b : Bool) (x : Option α) : Option α := if b = true then x else none
theorem gd_e {α : Type} {b : Bool} {x : Option α} {r : α} (h : gd b x = some r) : b = true ∧ x = some r := by
  unfold gd at h
  by_cases hb : b = true
  · rw [if_pos hb] at h
    exact ⟨hb, h⟩
  · rw [if_neg hb] at h
    cases h
/-- a name for a new state -/
def nm {α β : Type} (x : α) (k : α → β) : β := k x
theorem nm_f {α β : Type} {x : α} {k : α → β} {r : β} (h : nm x k = r) : ∃ z, z = x ∧ k z = r := ⟨x, rfl, h⟩
/-- a loop, n rounds at most -/
def lp {α β : Type} (step : α → Option (β ⊕ α)) : Nat → α → Option β
  | 0, _ => none
  | n + 1, a => (step a).bind (Sum.elim some (lp step n))
def FU : Nat := 2000
theorem bd_e {α β : Type} {o : Option α} {k : α → Option β} {r : β} (h : o.bind k = some r) : ∃ a, o = some a ∧ k a = some r := Option.bind_eq_some_iff.mp h
theorem W_loop {α β : Type} {step : α → Option (β ⊕ α)} {G : α → Prop} {E : β → Prop} (hs : ∀ a r, step a = some r → (∀ b, r = .inl b → E b) → (∀ a', r = .inr a' → G a') → G a) : ∀ (n : Nat) (a : α) (b : β), lp step n a = some b → E b → G a := by
  intro n
  induction n with
  | zero => intro a b h; cases h
  | succ n ih =>
    intro a b h hE
    obtain ⟨r, h1, h2⟩ := bd_e (h : (step a).bind _ = some b)
    refine hs a r h1 (fun b' hb => ?_) (fun a' ha => ?_)
    · subst hb
      cases (Option.some.inj h2 : b' = b)
      exact hE
    · subst ha
      exact ih a' b h2 hE
section XR
variable {p : Program} {l : Launch} {e : Env} {R : Room} {s : State} {m : MethodId} {args : Array Value} {below : List Frame} {meth : Method} {c : Code} {H : Heap} {locs : List Loc} {cells slots : Nat} {Q : State → Prop}
variable {cc : ByteArray} {nL pc : Nat} {own : String} {ls : Array Slot} {rest : List Value} {D : va_G} {y : Nat → ClassId} {ad : Nat → Nat} {L : XL} {N : Nat} {σ : S}
theorem x_get (C0 : CallFix p m c cc nL s args lwT own) (hK : XK D y s) (hw : XH D y ad L N σ s.heap H locs) {ref C : String} {T : u_T} {j ci n index : Nat} {r : Nat → Nat} (hj : j < N) (hL : L j = (ci + 4, n, r)) (hc : vwCl[ci]? = some (C, T, n)) (hin : ∀ w ∈ u_ws C T n, w ∈ lwT) (k : Nat) (hk : k < n) (hlink : Cond.fieldLink own index ref (T k).2.1 (T k).2.2.1 ∈ lwT) (hsame : (T k).1 = ref) {v : Value} (hv : xv ad σ j k (r k) = v) (hdg : decode cc pc = .ok (.getfield index, 3))
    (kk : W p l e R s m args below meth c H locs cells slots Q (F0 m (pc + 3) ls (v :: rest))) : W p l e R s m args below meth c H locs cells slots Q (F0 m pc ls (.ref (ad j) :: rest)) := by
  have he : (wx y ad L N σ)[j]? = some (ad j, .inr (ci, (List.range n).map (fun k => xv ad σ j k (r k)))) := by
    rw [wx_at hj]
    simp [xc, hL]
  exact va_get C0.1 C0.2.1 C0.2.2.2.2 hin C0.2.2.2.1 hK.1 hw.1 j he hc k hk (C0.2.2.2.2 _ hlink) (fun x h => hsame ▸ h) (by simp [hk, hv]) hdg kk
theorem x_put (hI : XI ad N) (C0 : CallFix p m c cc nL s args lwT own) (hK : XK D y s) (hw : XH D y ad L N σ s.heap H locs) {ref C : String} {T : u_T} {j ci n index : Nat} {r : Nat → Nat} (hj : j < N) (hL : L j = (ci + 4, n, r)) (hc : vwCl[ci]? = some (C, T, n)) (hin : ∀ w ∈ u_ws C T n, w ∈ lwT) {ty0 : Nat → FieldType} (hty : ∀ k, k < n → parseFieldDescriptor (T k).2.2.1 = some (ty0 k)) (hnm : ∀ a, a < n → ∀ b, b < n → a ≠ b → (T a).2.1 ≠ (T b).2.1) (k : Nat) (hk : k < n) (hlink : Cond.fieldLink own index ref (T k).2.1 (T k).2.2.1 ∈ lwT) (hsame : (T k).1 = ref) (hfin : (T k).2.2.2 = false) (hr : r k = 0) {v : Int32} {σ' : S} (es : σ' = up σ j k v) (hn : narrow (ty0 k) (.int v) = .int v) (hfit : fits (ty0 k) (.int v) = true) (hdg : decode cc pc = .ok (.putfield index, 3))
    (kk : ∀ (H1 : Heap) (locs1 : List Loc), XH D y ad L N σ' s.heap H1 locs1 → W p l e R s m args below meth c H1 locs1 cells slots Q (F0 m (pc + 3) ls rest)) : W p l e R s m args below meth c H locs cells slots Q (F0 m pc ls (.int v :: .ref (ad j) :: rest)) := by
  have he : (wx y ad L N σ)[j]? = some (ad j, .inr (ci, (List.range n).map (fun k => xv ad σ j k (r k)))) := by
    rw [wx_at hj]
    simp [xc, hL]
  have hset : (wx y ad L N σ).set j (ad j, .inr (ci, ((List.range n).map (fun k => xv ad σ j k (r k))).set k (.int v))) = wx y ad L N σ' := by
    rw [es]
    rw [← wx_set (s := σ) (s' := up σ j k v) (j := j) xc_up]
    congr 2
    simp only [xc, hL]
    rw [if_neg (by omega), if_neg (by omega), if_neg (by omega), if_neg (by omega)]
    congr 2
    apply List.ext_getElem?
    intro i
    by_cases hi : i = k
    · subst hi
      rw [List.getElem?_set_self (by simpa using hk)]
      simp [hk, hr, xv, up]
    · rw [List.getElem?_set_ne (Ne.symm hi)]
      have hx : xv ad (up σ j k v) j i (r i) = xv ad σ j i (r i) := by
        match r i with
        | 0 => simp [xv, up, hi]
        | 1 => rfl
        | c + 2 => rfl
      by_cases hl : i < n
      · simp [hl, hx]
      · simp [hl]
  refine va_put C0.1 C0.2.1 C0.2.2.2.2 hin ty0 hty hnm C0.2.2.2.1 hK.1 hw.1 (xD hI) hw.2 j he hc k hk (C0.2.2.2.2 _ hlink) (fun x h => hsame ▸ h) hfin (hty k hk) hn hfit (by simpa using hk) hdg (fun H1 locs1 a1 _ a3 => kk H1 locs1 ⟨hset ▸ a1, a3⟩)
/-- the long of the world's one cell that has it -/
theorem x_putL (hI : XI ad N) (C0 : CallFix p m c cc nL s args lwT own) (hK : XK D y s) (hw : XH D y ad L N σ s.heap H locs) {ref C : String} {T : u_T} {j ci n index : Nat} {r : Nat → Nat} (hj : j < N) (hL : L j = (ci + 4, n, r)) (hc : vwCl[ci]? = some (C, T, n)) (hin : ∀ w ∈ u_ws C T n, w ∈ lwT) {ty0 : Nat → FieldType} (hty : ∀ k, k < n → parseFieldDescriptor (T k).2.2.1 = some (ty0 k)) (hnm : ∀ a, a < n → ∀ b, b < n → a ≠ b → (T a).2.1 ≠ (T b).2.1) (k : Nat) (hk : k < n) (hlink : Cond.fieldLink own index ref (T k).2.1 (T k).2.2.1 ∈ lwT) (hsame : (T k).1 = ref) (hfin : (T k).2.2.2 = false) (hr : r k = 1) (hone : ∀ i, i < n → r i = 1 → i = k) (hoth : ∀ i, i ≠ j → ∀ a, a < (L i).2.1 → (L i).2.2 a ≠ 1) {v : Int64} {σ' : S} (es : σ' = uh σ v) (hlong : ty0 k = .long) (hdg : decode cc pc = .ok (.putfield index, 3))
    (kk : ∀ (H1 : Heap) (locs1 : List Loc), XH D y ad L N σ' s.heap H1 locs1 → W p l e R s m args below meth c H1 locs1 cells slots Q (F0 m (pc + 3) ls rest)) : W p l e R s m args below meth c H locs cells slots Q (F0 m pc ls (.long v :: .ref (ad j) :: rest)) := by
  have he : (wx y ad L N σ)[j]? = some (ad j, .inr (ci, (List.range n).map (fun k => xv ad σ j k (r k)))) := by
    rw [wx_at hj]
    simp [xc, hL]
  have hset : (wx y ad L N σ).set j (ad j, .inr (ci, ((List.range n).map (fun k => xv ad σ j k (r k))).set k (.long v))) = wx y ad L N σ' := by
    rw [es]
    rw [← wx_set (s := σ) (s' := uh σ v) (j := j) (fun i hi => ?_)]
    · congr 2
      simp only [xc, hL]
      rw [if_neg (by omega), if_neg (by omega), if_neg (by omega), if_neg (by omega)]
      congr 2
      apply List.ext_getElem?
      intro i
      by_cases hi : i = k
      · subst hi
        rw [List.getElem?_set_self (by simpa using hk)]
        simp [hk, hr, xv, uh]
      · rw [List.getElem?_set_ne (Ne.symm hi)]
        by_cases hl : i < n
        · have h1 : r i ≠ 1 := fun h => hi (hone i hl h)
          have hx : xv ad (uh σ v) j i (r i) = xv ad σ j i (r i) := by
            match hri : r i with
            | 0 => rfl
            | 1 => exact absurd hri h1
            | c + 2 => rfl
          simp [hl, hx]
        · simp [hl]
    · simp only [xc]
      have hm : (List.range (L i).2.1).map (fun k => xv ad (uh σ v) i k ((L i).2.2 k)) = (List.range (L i).2.1).map (fun k => xv ad σ i k ((L i).2.2 k)) := by
        apply List.map_congr_left
        intro a ha
        have h1 := hoth i hi a (List.mem_range.mp ha)
        match hri : (L i).2.2 a with
        | 0 => rfl
        | 1 => exact absurd hri h1
        | c + 2 => rfl
      rw [hm]
      rfl
  have hd := hty k hk
  rw [hlong] at hd
  exact va_put C0.1 C0.2.1 C0.2.2.2.2 hin ty0 hty hnm C0.2.2.2.1 hK.1 hw.1 (xD hI) hw.2 j he hc k hk (C0.2.2.2.2 _ hlink) (fun x h => hsame ▸ h) hfin hd rfl rfl (by simpa using hk) hdg (fun H1 locs1 a1 _ a3 => kk H1 locs1 ⟨hset ▸ a1, a3⟩)
theorem x_arr0 {j n : Nat} {r : Nat → Nat} (hj : j < N) (hL : L j = (0, n, r)) : (wx y ad L N σ)[j]? = some (ad j, .inl (y 0, n, .inl (σ.1 j))) := by
  rw [wx_at hj]
  simp [xc, hL]
theorem x_arr1 {j n : Nat} {r : Nat → Nat} (hj : j < N) (hL : L j = (1, n, r)) : (wx y ad L N σ)[j]? = some (ad j, .inl (y 1, n, .inl (σ.1 j))) := by
  rw [wx_at hj]
  simp [xc, hL]
theorem x_arr2 {j n : Nat} {r : Nat → Nat} (hj : j < N) (hL : L j = (2, n, r)) : (wx y ad L N σ)[j]? = some (ad j, .inl (y 2, n, .inr (.inr (.inr (.inr (fun i => some (ad (r i)))))))) := by
  rw [wx_at hj]
  simp [xc, hL]
theorem x_arr3 {j n : Nat} {r : Nat → Nat} (hj : j < N) (hL : L j = (3, n, r)) : (wx y ad L N σ)[j]? = some (ad j, .inl (y 3, n, .inr (.inr (.inr (.inr (fun i => some (ad (r i)))))))) := by
  rw [wx_at hj]
  simp [xc, hL]
theorem x_iald (C0 : CallFix p m c cc nL s args lwT own) (hK : XK D y s) (hw : XH D y ad L N σ s.heap H locs) {j n : Nat} {r : Nat → Nat} (hj : j < N) (hL : L j = (0, n, r)) {i : Int32} (hi : inb i n = true) (hdg : decode cc pc = .ok (.iaload, 1))
    (kk : W p l e R s m args below meth c H locs cells slots Q (F0 m (pc + 1) ls (.int (σ.1 j i.toNatClampNeg) :: rest))) : W p l e R s m args below meth c H locs cells slots Q (F0 m pc ls (.int i :: .ref (ad j) :: rest)) :=
  va_iald C0.1 C0.2.1 hK.1 hw.1 j 0 (x_arr0 hj hL) rfl (inb_in hi) hdg kk
theorem x_cald (C0 : CallFix p m c cc nL s args lwT own) (hK : XK D y s) (hw : XH D y ad L N σ s.heap H locs) {j n : Nat} {r : Nat → Nat} (hj : j < N) (hL : L j = (1, n, r)) {i : Int32} (hi : inb i n = true) (hdg : decode cc pc = .ok (.caload, 1))
    (kk : W p l e R s m args below meth c H locs cells slots Q (F0 m (pc + 1) ls (.int (σ.1 j i.toNatClampNeg) :: rest))) : W p l e R s m args below meth c H locs cells slots Q (F0 m pc ls (.int i :: .ref (ad j) :: rest)) :=
  va_cald C0.1 C0.2.1 hK.1 hw.1 j 1 (x_arr1 hj hL) rfl (inb_in hi) hdg kk
theorem x_upd {j n t : Nat} {r : Nat → Nat} {i : Nat} {v : Int32} {σ' : S} (ht : t < 2) (hL : L j = (t, n, r)) (es : σ' = up σ j i v) : (wx y ad L N σ).set j (ad j, .inl (y t, n, .inl (upd (σ.1 j) i v))) = wx y ad L N σ' := by
  rw [es]
  rw [← wx_set (s := σ) (s' := up σ j i v) (j := j) xc_up]
  congr 2
  have h1 : upd (σ.1 j) i v = (up σ j i v).1 j := by
    funext b
    simp [upd, up]
  rcases (show t = 0 ∨ t = 1 by omega) with rfl | rfl
  · simp [xc, hL, h1]
  · simp [xc, hL, h1]
theorem x_iast (hI : XI ad N) (C0 : CallFix p m c cc nL s args lwT own) (hK : XK D y s) (hw : XH D y ad L N σ s.heap H locs) {j n : Nat} {r : Nat → Nat} (hj : j < N) (hL : L j = (0, n, r)) {i v : Int32} (hi : inb i n = true) {σ' : S} (es : σ' = up σ j i.toNatClampNeg v) (hdg : decode cc pc = .ok (.iastore, 1))
    (kk : ∀ (H1 : Heap) (locs1 : List Loc), XH D y ad L N σ' s.heap H1 locs1 → W p l e R s m args below meth c H1 locs1 cells slots Q (F0 m (pc + 1) ls rest)) : W p l e R s m args below meth c H locs cells slots Q (F0 m pc ls (.int v :: .int i :: .ref (ad j) :: rest)) :=
  va_iast C0.1 C0.2.1 hK.1 hw.1 (xD hI) hw.2 j 0 (x_arr0 hj hL) rfl (inb_in hi) hdg (fun H1 locs1 a1 _ a3 => kk H1 locs1 ⟨x_upd (by omega) hL es ▸ a1, a3⟩)
theorem x_cast (hI : XI ad N) (C0 : CallFix p m c cc nL s args lwT own) (hK : XK D y s) (hw : XH D y ad L N σ s.heap H locs) {j n : Nat} {r : Nat → Nat} (hj : j < N) (hL : L j = (1, n, r)) {i v : Int32} (hi : inb i n = true) {σ' : S} (es : σ' = up σ j i.toNatClampNeg (vp_nar .char v)) (hdg : decode cc pc = .ok (.castore, 1))
    (kk : ∀ (H1 : Heap) (locs1 : List Loc), XH D y ad L N σ' s.heap H1 locs1 → W p l e R s m args below meth c H1 locs1 cells slots Q (F0 m (pc + 1) ls rest)) : W p l e R s m args below meth c H locs cells slots Q (F0 m pc ls (.int v :: .int i :: .ref (ad j) :: rest)) :=
  va_cast C0.1 C0.2.1 hK.1 hw.1 (xD hI) hw.2 j 1 (x_arr1 hj hL) rfl (inb_in hi) hdg (fun H1 locs1 a1 _ a3 => kk H1 locs1 ⟨x_upd (by omega) hL es ▸ a1, a3⟩)
theorem x_aldB (C0 : CallFix p m c cc nL s args lwT own) (hK : XK D y s) (hw : XH D y ad L N σ s.heap H locs) {j n : Nat} {r : Nat → Nat} (hj : j < N) (hL : L j = (2, n, r)) {i : Int32} (hi : inb i n = true) {t : Nat} (ht : r i.toNatClampNeg = t) (hdg : decode cc pc = .ok (.aaload, 1))
    (kk : W p l e R s m args below meth c H locs cells slots Q (F0 m (pc + 1) ls (.ref (ad t) :: rest))) : W p l e R s m args below meth c H locs cells slots Q (F0 m pc ls (.int i :: .ref (ad j) :: rest)) := by
  subst ht
  exact va_aldq C0.1 C0.2.1 hK.1 hw.1 j 2 (x_arr2 hj hL) rfl (inb_in hi) hdg kk
theorem x_aldT (C0 : CallFix p m c cc nL s args lwT own) (hK : XK D y s) (hw : XH D y ad L N σ s.heap H locs) {j n : Nat} {r : Nat → Nat} (hj : j < N) (hL : L j = (3, n, r)) {i : Int32} (hi : inb i n = true) {t : Nat} (ht : r i.toNatClampNeg = t) (hdg : decode cc pc = .ok (.aaload, 1))
    (kk : W p l e R s m args below meth c H locs cells slots Q (F0 m (pc + 1) ls (.ref (ad t) :: rest))) : W p l e R s m args below meth c H locs cells slots Q (F0 m pc ls (.int i :: .ref (ad j) :: rest)) := by
  subst ht
  exact va_aldq C0.1 C0.2.1 hK.1 hw.1 j 3 (x_arr3 hj hL) rfl (inb_in hi) hdg kk
theorem x_alen0 (C0 : CallFix p m c cc nL s args lwT own) (hK : XK D y s) (hw : XH D y ad L N σ s.heap H locs) {j n : Nat} {r : Nat → Nat} (hj : j < N) (hL : L j = (0, n, r)) {v : Int32} (hv : Int32.ofNat n = v) (hdg : decode cc pc = .ok (.arraylength, 1))
    (kk : W p l e R s m args below meth c H locs cells slots Q (F0 m (pc + 1) ls (.int v :: rest))) : W p l e R s m args below meth c H locs cells slots Q (F0 m pc ls (.ref (ad j) :: rest)) :=
  va_alen C0.1 C0.2.1 hK.1 hw.1 j 0 (x_arr0 hj hL) rfl hv hdg kk
/-! ends -/
theorem x_iret (C0 : CallFix p m c cc nL s args lwT own) (hK : XK D y s) (hlocks : meth.locks = false) (hr : meth.sig.returnType = some .int) (hw : XH D y ad L N σ s.heap H locs) {v : Int32} {o : Int32 × S} (ho : (v, σ) = o) (hdg : decode cc pc = .ok (.ireturn, 1)) : W p l e R s m args below meth c H locs cells slots (MQ below (XQi D y ad L N o) args s cells slots (XA ad N)) (F0 m pc ls [.int v]) :=
  W.iret (v := v) C0.1 C0.2.1 hr (fun t ht hW => ⟨⟨v, σ, rfl, ho, by rw [ht]; exact hw.1, hK.warm hW⟩, hw.2.F ht⟩) hw.2.2.2 hdg
theorem x_zret (C0 : CallFix p m c cc nL s args lwT own) (hK : XK D y s) (hlocks : meth.locks = false) (hr : meth.sig.returnType = some .boolean) (hw : XH D y ad L N σ s.heap H locs) {v : Int32} {o : Int32 × S} (hb : isb v = true) (ho : (v, σ) = o) (hdg : decode cc pc = .ok (.ireturn, 1)) : W p l e R s m args below meth c H locs cells slots (MQ below (XQi D y ad L N o) args s cells slots (XA ad N)) (F0 m pc ls [.int v]) :=
  W.zret (v := v) C0.1 C0.2.1 hr (isb_narrow hb) (fun t ht hW => ⟨⟨v, σ, rfl, ho, by rw [ht]; exact hw.1, hK.warm hW⟩, hw.2.F ht⟩) hw.2.2.2 hdg
theorem x_cret (C0 : CallFix p m c cc nL s args lwT own) (hK : XK D y s) (hlocks : meth.locks = false) (hr : meth.sig.returnType = some .char) (hw : XH D y ad L N σ s.heap H locs) {v : Int32} {o : Int32 × S} (hb : (vp_nar .char v == v) = true) (ho : (v, σ) = o) (hdg : decode cc pc = .ok (.ireturn, 1)) : W p l e R s m args below meth c H locs cells slots (MQ below (XQi D y ad L N o) args s cells slots (XA ad N)) (F0 m pc ls [.int v]) :=
  W.zret (v := v) C0.1 C0.2.1 hr (by have h := eq_of_beq hb; exact congrArg Value.int h) (fun t ht hW => ⟨⟨v, σ, rfl, ho, by rw [ht]; exact hw.1, hK.warm hW⟩, hw.2.F ht⟩) hw.2.2.2 hdg
theorem x_lret (C0 : CallFix p m c cc nL s args lwT own) (hK : XK D y s) (hlocks : meth.locks = false) (hr : meth.sig.returnType = some .long) (hw : XH D y ad L N σ s.heap H locs) {v : Int64} {o : Int64 × S} (ho : (v, σ) = o) (hdg : decode cc pc = .ok (.lreturn, 1)) : W p l e R s m args below meth c H locs cells slots (MQ below (XQl D y ad L N o) args s cells slots (XA ad N)) (F0 m pc ls [.long v]) :=
  W.lret (v := v) C0.1 C0.2.1 hr (fun t ht hW => ⟨⟨v, σ, rfl, ho, by rw [ht]; exact hw.1, hK.warm hW⟩, hw.2.F ht⟩) hw.2.2.2 hdg
theorem x_vret (C0 : CallFix p m c cc nL s args lwT own) (hK : XK D y s) (hlocks : meth.locks = false) (hr : meth.sig.returnType = none) (hw : XH D y ad L N σ s.heap H locs) {o : S} (ho : σ = o) (hdg : decode cc pc = .ok (.return_, 1)) : W p l e R s m args below meth c H locs cells slots (MQ below (XQv D y ad L N o) args s cells slots (XA ad N)) (F0 m pc ls []) :=
  W.vret C0.1 C0.2.1 hr (fun t ht hW => ⟨⟨σ, rfl, ho, by rw [ht]; exact hw.1, hK.warm hW⟩, hw.2.F ht⟩) hw.2.2.2 hdg
/-! calls -/
theorem x_back (hw : XH D y ad L N σ s.heap H locs) {st0 : List Value} {a : Array Value} {o : Int32 × S} (hr : va_Run p l e R s m args below meth c H locs cells slots 0 0 (F0 m pc ls st0) rest (XQi D y ad L N o a) (XA ad N))
    (kk : ∀ (H1 : Heap) (locs1 : List Loc), XH D y ad L N o.2 s.heap H1 locs1 → W p l e R s m args below meth c H1 locs1 cells slots Q (F0 m (pc + 3) ls (.int o.1 :: rest))) : W p l e R s m args below meth c H locs cells slots Q (F0 m pc ls st0) :=
  va_calli hr hw.2 (fun _ _ h => h) (fun _ h => h) (fun r u t H1 locs1 ht _ hp hB _ _ hS => by
    subst hp
    exact kk H1 locs1 ⟨ht ▸ hB.1, hS⟩)
theorem x_backl (hw : XH D y ad L N σ s.heap H locs) {st0 : List Value} {a : Array Value} {o : Int64 × S} (hr : va_Run p l e R s m args below meth c H locs cells slots 0 0 (F0 m pc ls st0) rest (XQl D y ad L N o a) (XA ad N))
    (kk : ∀ (H1 : Heap) (locs1 : List Loc), XH D y ad L N o.2 s.heap H1 locs1 → W p l e R s m args below meth c H1 locs1 cells slots Q (F0 m (pc + 3) ls (.long o.1 :: rest))) : W p l e R s m args below meth c H locs cells slots Q (F0 m pc ls st0) :=
  va_calll hr hw.2 (fun _ _ h => h) (fun _ h => h) (fun r u t H1 locs1 ht _ hp hB _ _ hS => by
    subst hp
    exact kk H1 locs1 ⟨ht ▸ hB.1, hS⟩)
theorem x_backv (hw : XH D y ad L N σ s.heap H locs) {st0 : List Value} {a : Array Value} {o : S} (hr : va_Run p l e R s m args below meth c H locs cells slots 0 0 (F0 m pc ls st0) rest (XQv D y ad L N o a) (XA ad N))
    (kk : ∀ (H1 : Heap) (locs1 : List Loc), XH D y ad L N o s.heap H1 locs1 → W p l e R s m args below meth c H1 locs1 cells slots Q (F0 m (pc + 3) ls rest)) : W p l e R s m args below meth c H locs cells slots Q (F0 m pc ls st0) :=
  va_callv hr hw.2 (fun _ _ h => h) (fun _ h => h) (fun u t H1 locs1 ht _ hp hB _ _ hS => by
    subst hp
    exact kk H1 locs1 ⟨ht ▸ hB.1, hS⟩)
theorem x_good {ws' : List Cond} {w0 : Cond} (hws : ws' = w0 :: lwT) (h0 : w0 ∈ lwT) : ∀ w ∈ ws', w ∈ lwT := by
  intro w hw
  rw [hws] at hw
  rcases List.mem_cons.mp hw with h | h
  · rw [h]; exact h0
  · exact h
theorem x_goodV {index : Nat} {C : String} {yy : MethodName} {ws' : List Cond} {w0 : Cond} (hws : ws' = w0 :: lwT) (h0 : w0 ∈ lwT) (h1 : Cond.methodLink own index yy ∈ lwT) (h2 : Cond.instanceMethod yy ∈ lwT) (h3 : Cond.selects C yy yy ∈ lwT) (h4 : Cond.initialized C ∈ lwT) : GoodIn lwT (wsV own index C yy ws') := by
  intro w hw
  have hm : w ∈ lwT := by
    unfold wsV at hw
    rcases List.mem_append.mp hw with h | h
    · simp only [List.mem_cons, List.not_mem_nil, or_false] at h
      rcases h with rfl | rfl | rfl | rfl
      · exact h1
      · exact h2
      · exact h3
      · exact h4
    · exact x_good hws h0 w h
  exact ⟨hm, lwT_good w hm⟩
theorem x_recv (hK : XK D y s) (hw : XH D y ad L N σ s.heap H locs) {j ci n : Nat} {r : Nat → Nat} {C : String} {T : u_T} (hj : j < N) (hL : L j = (ci + 4, n, r)) (hc : vwCl[ci]? = some (C, T, n)) : ∃ cell : Cell, H[ad j]? = some cell ∧ cell.vm.isStatics = false ∧ s.vm.findClass C = some cell.cls := by
  have he : (wx y ad L N σ)[j]? = some (ad j, .inr (ci, (List.range n).map (fun k => xv ad σ j k (r k)))) := by
    rw [wx_at hj]
    simp [xc, hL]
  exact va_recv hK.1 hw.1 hc he
/-- an instance method of the world -/
theorem x_runV (C0 : CallFix p m c cc nL s args lwT own) (hK : XK D y s) (hw : XH D y ad L N σ s.heap H locs) (hl : ls.size = nL) (h0 : cells ≤ R.cells ∧ slots ≤ R.slots) {C : String} {T : u_T} {yy : MethodName} {bytes : ByteArray} {maxL n index : Nat} {ret : Option FieldType} {ws' : List Cond} {rm : Room} {As : List Value} {Qc : Array Value → State → Outcome → State → Prop} {j ci nf : Nat} {r : Nat → Nat}
    (hM : Met l yy ws' rm (va_Pc (.ref (ad j) :: As) (XW D y ad L N σ)) Qc 0 0 (XA ad N)) (hj : j < N) (hL : L j = (ci + 4, nf, r)) (hc : vwCl[ci]? = some (C, T, nf)) (hws : ws' = .code yy bytes maxL ret :: lwT) (hcode : Cond.code yy bytes maxL ret ∈ lwT) (h1 : Cond.methodLink own index yy ∈ lwT) (h2 : Cond.instanceMethod yy ∈ lwT) (h3 : Cond.selects C yy yy ∈ lwT) (h4 : Cond.initialized C ∈ lwT) (hrm : rm.cells = 0 ∧ rm.slots = 0) (hd : yy.cls = C ∧ yy.cls ≠ "java/lang/invoke/MethodHandle" ∧ yy.cls ≠ "java/lang/invoke/VarHandle" ∧ (parseMethodDescriptor yy.desc).map (fun d => d.parameters.length) = some n) (hn : As.length = n) (hR : rm.frames + 1 ≤ R.frames ∧ 8 + (maxL + 11) + rm.locals ≤ R.locals) (hrest : (rest.map fun v => v.category).sum ≤ 8) (hdg : decode cc pc = .ok (.invokevirtual index, 3)) :
    va_Run p l e R s m args below meth c H locs cells slots 0 0 (F0 m pc ls (As.reverse ++ .ref (ad j) :: rest)) rest (Qc (Value.ref (ad j) :: As).toArray) (XA ad N) :=
  va_runV C0 hM (cwV n C0.2.2.2.2 (x_goodV hws hcode h1 h2 h3 h4) hws hrm.1 hrm.2 hd hR) ⟨xBlind, x_recv hK hw hj hL hc, fun U hU hW => ⟨rfl, by rw [hU]; exact hw.1, hK.warm hW⟩⟩ rfl hn hl rfl (lv_room hrest) hdg h0
/-- a static method of the same class -/
theorem x_runS (C0 : CallFix p m c cc nL s args lwT own) (hK : XK D y s) (hw : XH D y ad L N σ s.heap H locs) (hl : ls.size = nL) (h0 : cells ≤ R.cells ∧ slots ≤ R.slots) {yy : MethodName} {bytes : ByteArray} {maxL n index : Nat} {ret : Option FieldType} {ws' : List Cond} {rm : Room} {As : List Value} {Qc : Array Value → State → Outcome → State → Prop}
    (hM : Met l yy ws' rm (va_Pc As (XW D y ad L N σ)) Qc 0 0 (XA ad N)) (hws : ws' = .code yy bytes maxL ret :: lwT) (hcode : Cond.code yy bytes maxL ret ∈ lwT) (h1 : Cond.methodLink own index yy ∈ lwT) (h2 : Cond.static yy ∈ lwT) (h4 : Cond.initialized yy.cls ∈ lwT) (hrm : rm.cells = 0 ∧ rm.slots = 0) (hd : yy.cls ≠ "java/lang/invoke/MethodHandle" ∧ yy.cls ≠ "java/lang/invoke/VarHandle" ∧ (parseMethodDescriptor yy.desc).map (fun d => d.parameters.length) = some n) (hn : As.length = n) (hR : rm.frames + 1 ≤ R.frames ∧ 8 + (maxL + 11) + rm.locals ≤ R.locals) (hrest : (rest.map fun v => v.category).sum ≤ 8) (hdg : decode cc pc = .ok (.invokestatic index, 3)) :
    va_Run p l e R s m args below meth c H locs cells slots 0 0 (F0 m pc ls (As.reverse ++ rest)) rest (Qc As.toArray) (XA ad N) :=
  va_runS C0 hM ⟨callB_of n C0.2.2.2.2 (fun w h => ⟨x_good hws hcode w h, lwT_good w (x_good hws hcode w h)⟩) hws hrm.1 hrm.2 (C0.2.2.2.2 _ h4) (C0.2.2.2.2 _ h1) hd hR, C0.2.2.2.2 _ h2⟩ ⟨xBlind, fun U hU hW => ⟨rfl, by rw [hU]; exact hw.1, hK.warm hW⟩⟩ rfl hn hl rfl (lv_room hrest) hdg h0
end XR
/-- a method's walk, from its entry -/
theorem x_met {l : Launch} {D : va_G} {y : Nat → ClassId} {ad : Nat → Nat} {L : XL} {N : Nat} {σ : S} {yy : MethodName} {ws : List Cond} {rm : Room} {bytes : ByteArray} {maxL : Nat} {ret : Option FieldType} {own : String} {av : List Value} {Qc : Array Value → State → Outcome → State → Prop} (hy : plainName yy.cls = true) (hown : yy.cls = own) (hws : ws = .code yy bytes maxL ret :: lwT) (hlen : (lg_sl av).length ≤ maxL)
    (body : ∀ (p : Program) (e : Env) (s : State) (m : MethodId) (below : List Frame) (meth : Method) (c : Code) (ls : Array Slot), CallFix p m c bytes maxL s av.toArray lwT own → XK D y s → meth.locks = false → meth.sig.returnType = ret → XH D y ad L N σ s.heap s.heap [] → lv_has ls maxL (lv_args 0 av) →
      W p l e (headSpec ws rm).room s m av.toArray below meth c s.heap [] 0 0 (MQ below Qc av.toArray s 0 0 (XA ad N)) (F0 m 0 ls [])) : Met l yy ws rm (va_Pc av (XW D y ad L N σ)) Qc 0 0 (XA ad N) := by
  refine Met.ofW (cc := bytes) (maxL := maxL) (ret := ret) hy hws ?_
  intro p e s m args below meth c s₁ B hml hv
  obtain ⟨rfl, hP, hK⟩ := hv
  have hl := lv_entry av (n := maxL) hlen
  have hown2 : s.vm.findClass yy.cls = some m.cls := findClass_of_methodNamed B.named
  rw [hown] at hown2
  rw [lg_entry_eq]
  exact body p e s m below meth c _ ⟨B.exec, B.bytes, hml, hown2, fun w h => atoms_spec (ws := ws) B.pre w (by rw [hws]; exact List.mem_cons_of_mem _ h)⟩ hK B.notSynchronized B.returns ⟨hP, va_S.rf⟩ hl
