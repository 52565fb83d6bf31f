/-! a small world inside a greater one -/
def rfE (f : Nat → Option Nat) : Nat × (Nat → Option Nat) → (Nat → Option Nat) := fun _ => f
def Lok (L : XL) (M : Nat) : Prop := ∀ j, j < M → ∀ i, i < (L j).2.1 → ((L j).1 = 2 ∨ (L j).1 = 3 → (L j).2.2 i < M) ∧ (4 ≤ (L j).1 → (L j).2.2 i ≠ 1 ∧ (L j).2.2 i < M + 2)
def shf (o : Nat) (t : Nat × Nat × (Nat → Nat)) : Nat × Nat × (Nat → Nat) := (t.1, t.2.1, fun k => if t.1 < 4 then t.2.2 k + o else if t.2.2 k < 2 then t.2.2 k else t.2.2 k + o)
theorem shf_0 (t : Nat × Nat × (Nat → Nat)) : shf 0 t = t := by
  obtain ⟨a, b, f⟩ := t
  simp only [shf, Nat.add_zero]
  congr 2
  funext k
  split <;> simp
def Emb (o : Nat) (L LZ : XL) (M NZ : Nat) : Prop := o + M ≤ NZ ∧ Lok L M ∧ ∀ j, j < M → LZ (o + j) = shf o (L j)
theorem z_row {D : va_G} {a n : Nat} {t : ClassId} {f g : Nat → Option Nat} {H : Heap} (he : ∀ j, j < n → f j = g j) : va_at D vwCl (a, .inl (t, n, .inr (.inr (.inr (.inr f))))) H ↔ va_at D vwCl (a, .inl (t, n, .inr (.inr (.inr (.inr g))))) H := by
  have hc : vp_cell t (n, .inr (.inr (.inr (.inr f)))) = vp_cell t (n, .inr (.inr (.inr (.inr g)))) := by
    rw [vp_cell_q, vp_cell_q]
    exact arrV_congr (fun j hj => by rw [he j hj])
  show H[a]? = some (vp_cell _ _) ↔ H[a]? = some (vp_cell _ _)
  rw [hc]
theorem emb_at {D : va_G} {y : Nat → ClassId} {ad aa : Nat → Nat} {L LZ : XL} {o M NZ : Nat} {σ τ : S} {H : Heap} (hE : Emb o L LZ M NZ) (ha : ∀ j, j < M → aa j = ad (o + j)) {j : Nat} (hj : j < M) (hσ : σ.1 (o + j) = τ.1 j) :
    va_at D vwCl (ad (o + j), xc y ad LZ σ (o + j)) H ↔ va_at D vwCl (aa j, xc y aa L τ j) H := by
  have hl := hE.2.2 j hj
  have hk := hE.2.1 j hj
  rw [ha j hj]
  obtain ⟨t, n, r, hLj⟩ : ∃ t n r, L j = (t, n, r) := ⟨_, _, _, rfl⟩
  rw [hLj] at hl hk
  have hl : LZ (o + j) = (t, n, (shf o (t, n, r)).2.2) := hl
  by_cases h0 : t = 0
  · simp [xc, hl, hLj, h0, hσ]
  by_cases h1 : t = 1
  · simp [xc, hl, hLj, h1, hσ]
  by_cases h2 : t = 2
  · have e1 : xc y ad LZ σ (o + j) = .inl (y 2, n, .inr (.inr (.inr (.inr (fun i => some (ad (r i + o))))))) := by simp [xc, hl, h2, shf]
    have e2 : xc y aa L τ j = .inl (y 2, n, .inr (.inr (.inr (.inr (fun i => some (aa (r i))))))) := by simp [xc, hLj, h2]
    rw [e1, e2]
    exact z_row (fun i hi => by rw [ha _ ((hk i hi).1 (Or.inl h2)), Nat.add_comm])
  by_cases h3 : t = 3
  · have e1 : xc y ad LZ σ (o + j) = .inl (y 3, n, .inr (.inr (.inr (.inr (fun i => some (ad (r i + o))))))) := by simp [xc, hl, h3, shf]
    have e2 : xc y aa L τ j = .inl (y 3, n, .inr (.inr (.inr (.inr (fun i => some (aa (r i))))))) := by simp [xc, hLj, h3]
    rw [e1, e2]
    exact z_row (fun i hi => by rw [ha _ ((hk i hi).1 (Or.inr h3)), Nat.add_comm])
  · have e1 : xc y ad LZ σ (o + j) = xc y aa L τ j := by
      simp only [xc, hl, hLj]
      rw [if_neg h0, if_neg h1, if_neg h2, if_neg h3, if_neg h0, if_neg h1, if_neg h2, if_neg h3]
      congr 2
      apply List.map_congr_left
      intro i hi
      have hi := List.mem_range.mp hi
      have h4 : 4 ≤ t := by omega
      obtain ⟨g1, g2⟩ := (hk i hi).2 h4
      have g1 : r i ≠ 1 := g1
      have g2 : r i < M + 2 := g2
      have hn4 : ¬ t < 4 := by omega
      simp only [shf, if_neg hn4]
      by_cases hr : r i < 2
      · have hr0 : r i = 0 := by omega
        simp [xv, hr0, hσ]
      · rw [if_neg hr]
        obtain ⟨q, hq⟩ : ∃ q, r i = q + 2 := ⟨r i - 2, by omega⟩
        rw [hq, show q + 2 + o = (q + o) + 2 by omega]
        show Value.ref (ad (q + o)) = Value.ref (aa q)
        rw [ha q (by omega), Nat.add_comm]
    rw [e1]
theorem emb_P {D : va_G} {y : Nat → ClassId} {ad aa : Nat → Nat} {L LZ : XL} {o M NZ : Nat} {σ τ : S} {H : Heap} (hE : Emb o L LZ M NZ) (ha : ∀ j, j < M → aa j = ad (o + j)) (hσ : ∀ j, j < M → σ.1 (o + j) = τ.1 j) (hP : va_P D vwCl (wx y ad LZ NZ σ) H) : va_P D vwCl (wx y aa L M τ) H := by
  intro k q hk
  obtain ⟨hk2, rfl⟩ := wx_get hk
  exact (emb_at hE ha hk2 (hσ k hk2)).mp (hP (o + k) _ (wx_at (by have := hE.1; omega)))
theorem emb_I {ad aa : Nat → Nat} {o M NZ : Nat} (h : o + M ≤ NZ) (ha : ∀ j, j < M → aa j = ad (o + j)) (hI : XI ad NZ) : XI aa M := by
  intro i j hi hj hij
  rw [ha i hi, ha j hj] at hij
  have := hI _ _ (by omega) (by omega) hij
  omega
section ZR
variable {p : Program} {l : Launch} {e : Env} {R : Room} {s : State} {m : MethodId} {args : Array Value} {below : List Frame} {meth : Method} {c : Code} {H : Heap} {locs : List Loc} {cells slots : Nat} {Q : State → Prop}
variable {cc : ByteArray} {nL pc : Nat} {own : String} {ls : Array Slot} {rest : List Value} {D : va_G} {y : Nat → ClassId} {ad aa : Nat → Nat} {L LZ : XL} {M NZ o : Nat} {σ τ : S}
/-- the law's call of an instance method, of a small world -/
theorem z_runV {mc ms : Nat} (C0 : CallFix p m c cc nL s args lwT own) (hK : XK D y s) (hP : va_P D vwCl (wx y aa L M τ) H) (hl : ls.size = nL) (h0 : cells + mc ≤ R.cells ∧ slots + ms ≤ R.slots) {C : String} {T : u_T} {yy : MethodName} {bytes : ByteArray} {maxL n index : Nat} {ret : Option FieldType} {ws' : List Cond} {rm : Room} {As : List Value} {Qc : Array Value → State → Outcome → State → Prop} {j ci nf : Nat} {r : Nat → Nat}
    (hM : Met l yy ws' rm (va_Pc (.ref (aa j) :: As) (XW D y aa L M τ)) Qc mc ms (XA aa M)) (hj : j < M) (hL : L j = (ci + 4, nf, r)) (hc : vwCl[ci]? = some (C, T, nf)) (hws : ws' = .code yy bytes maxL ret :: lwT) (hcode : Cond.code yy bytes maxL ret ∈ lwT) (h1 : Cond.methodLink own index yy ∈ lwT) (h2 : Cond.instanceMethod yy ∈ lwT) (h3 : Cond.selects C yy yy ∈ lwT) (h4 : Cond.initialized C ∈ lwT) (hrm : rm.cells = mc ∧ rm.slots = ms) (hd : yy.cls = C ∧ yy.cls ≠ "java/lang/invoke/MethodHandle" ∧ yy.cls ≠ "java/lang/invoke/VarHandle" ∧ (parseMethodDescriptor yy.desc).map (fun d => d.parameters.length) = some n) (hn : As.length = n) (hR : rm.frames + 1 ≤ R.frames ∧ 8 + (maxL + 11) + rm.locals ≤ R.locals) (hrest : (rest.map fun v => v.category).sum ≤ 8) (hdg : decode cc pc = .ok (.invokevirtual index, 3)) :
    va_Run p l e R s m args below meth c H locs cells slots mc ms (F0 m pc ls (As.reverse ++ .ref (aa j) :: rest)) rest (Qc (Value.ref (aa j) :: As).toArray) (XA aa M) := by
  have he : (wx y aa L M τ)[j]? = some (aa j, .inr (ci, (List.range nf).map (fun k => xv aa τ j k (r k)))) := by
    rw [wx_at hj]
    simp [xc, hL]
  exact va_runV C0 hM (cwV n C0.2.2.2.2 (x_goodV hws hcode h1 h2 h3 h4) hws hrm.1 hrm.2 hd hR) ⟨xBlind, va_recv hK.1 hP hc he, fun U hU hW => ⟨rfl, by rw [hU]; exact hP, hK.warm hW⟩⟩ rfl hn hl rfl (lv_room hrest) hdg h0
/-- the law's call of its own static methods -/
theorem z_runS {mc ms : Nat} (C0 : CallFix p m c cc nL s args lwT own) (hK : XK D y s) (hP : va_P D vwCl (wx y aa L M τ) H) (hl : ls.size = nL) (h0 : cells + mc ≤ R.cells ∧ slots + ms ≤ R.slots) {yy : MethodName} {bytes : ByteArray} {maxL n index : Nat} {ret : Option FieldType} {ws' : List Cond} {rm : Room} {As : List Value} {Qc : Array Value → State → Outcome → State → Prop}
    (hM : Met l yy ws' rm (va_Pc As (XW D y aa L M τ)) Qc mc ms (XA aa M)) (hws : ws' = .code yy bytes maxL ret :: lwT) (hcode : Cond.code yy bytes maxL ret ∈ lwT) (h1 : Cond.methodLink own index yy ∈ lwT) (h2 : Cond.static yy ∈ lwT) (h4 : Cond.initialized yy.cls ∈ lwT) (hrm : rm.cells = mc ∧ rm.slots = ms) (hd : yy.cls ≠ "java/lang/invoke/MethodHandle" ∧ yy.cls ≠ "java/lang/invoke/VarHandle" ∧ (parseMethodDescriptor yy.desc).map (fun d => d.parameters.length) = some n) (hn : As.length = n) (hR : rm.frames + 1 ≤ R.frames ∧ 8 + (maxL + 11) + rm.locals ≤ R.locals) (hrest : (rest.map fun v => v.category).sum ≤ 8) (hdg : decode cc pc = .ok (.invokestatic index, 3)) :
    va_Run p l e R s m args below meth c H locs cells slots mc ms (F0 m pc ls (As.reverse ++ rest)) rest (Qc As.toArray) (XA aa M) :=
  va_runS C0 hM ⟨callB_of n C0.2.2.2.2 (fun w h => ⟨x_good hws hcode w h, lwT_good w (x_good hws hcode w h)⟩) hws hrm.1 hrm.2 (C0.2.2.2.2 _ h4) (C0.2.2.2.2 _ h1) hd hR, C0.2.2.2.2 _ h2⟩ ⟨xBlind, fun U hU hW => ⟨rfl, by rw [hU]; exact hP, hK.warm hW⟩⟩ rfl hn hl rfl (lv_room hrest) hdg h0
theorem z_back {mc ms : Nat} (hI : XI ad NZ) (hE : Emb o L LZ M NZ) (ha : ∀ j, j < M → aa j = ad (o + j)) (hw : XH D y ad LZ NZ σ s.heap H locs) {σ' : S} {st0 : List Value} {a : Array Value} {q : Int32 × S} (hs1 : ∀ j, j < M → σ'.1 (o + j) = q.2.1 j) (hs2 : ∀ i, i < NZ → (∀ j, j < M → o + j ≠ i) → xc y ad LZ σ' i = xc y ad LZ σ i) (hr : va_Run p l e R s m args below meth c H locs cells slots mc ms (F0 m pc ls st0) rest (XQi D y aa L M q a) (XA aa M))
    (kk : ∀ (H1 : Heap) (locs1 : List Loc), XH D y ad LZ NZ σ' s.heap H1 locs1 → W p l e R s m args below meth c H1 locs1 (cells + mc) (slots + ms) Q (F0 m (pc + 3) ls (.int q.1 :: rest))) : W p l e R s m args below meth c H locs cells slots Q (F0 m pc ls st0) := by
  have hsub : ∀ x, XA aa M x → XA ad NZ x := fun x ⟨j, hj, h⟩ => ⟨o + j, by have := hE.1; omega, by rw [h, ha j hj]⟩
  refine va_calli hr hw.2 (fun x _ h => hsub x h) hsub (fun r u t H1 locs1 ht _ hp hB _ hk hS => ?_)
  subst hp
  refine kk H1 locs1 ⟨fun k x hx => ?_, hS⟩
  obtain ⟨hkN, rfl⟩ := wx_get hx
  by_cases hj : ∃ j, j < M ∧ o + j = k
  · obtain ⟨j, hj, rfl⟩ := hj
    exact (emb_at hE ha hj (hs1 j hj)).mpr (ht ▸ hB.1 j _ (wx_at hj))
  · rw [hs2 k hkN (fun j h1 h2 => hj ⟨j, h1, h2⟩)]
    have h0 := hw.1 k _ (wx_at hkN)
    refine h0.kept (hk _ h0.lt ?_)
    rintro ⟨j, hjM, h⟩
    refine hj ⟨j, hjM, ?_⟩
    rw [ha j hjM] at h
    exact (hI _ _ hkN (by have := hE.1; omega) h).symm
theorem xc_eq {σ σ' : S} {i : Nat} (h : σ'.1 i = σ.1 i) (h2 : σ'.2 = σ.2) : xc y ad LZ σ' i = xc y ad LZ σ i := by
  have h3 : ∀ (k t : Nat), xv ad σ' i k t = xv ad σ i k t := by
    intro k t
    match t with
    | 0 => simp [xv, h]
    | 1 => simp [xv, h2]
    | c + 2 => rfl
  simp only [xc, h, h3]
theorem z_backp0 (hI : XI ad NZ) (hE : Emb 0 L LZ M NZ) (hw : XH D y ad LZ NZ σ s.heap H locs) {st0 : List Value} {a : Array Value} {q : Int32} (hr : va_Run p l e R s m args below meth c H locs cells slots 0 0 (F0 m pc ls st0) rest (XQi D y ad L M (q, σ) a) (XA ad M))
    (kk : ∀ (H1 : Heap) (locs1 : List Loc), XH D y ad LZ NZ σ s.heap H1 locs1 → W p l e R s m args below meth c H1 locs1 cells slots Q (F0 m (pc + 3) ls (.int q :: rest))) : W p l e R s m args below meth c H locs cells slots Q (F0 m pc ls st0) :=
  z_back hI hE (fun j _ => by rw [Nat.zero_add]) hw (q := (q, σ)) (σ' := σ) (fun j _ => by rw [Nat.zero_add]) (fun _ _ _ => rfl) hr kk
theorem z_back0 (hI : XI ad NZ) (hE : Emb 0 L LZ M NZ) (hw : XH D y ad LZ NZ σ s.heap H locs) {st0 : List Value} {a : Array Value} {q : Int32 × S} {σ' : S} (es : σ' = mgS M σ q.2) (hr : va_Run p l e R s m args below meth c H locs cells slots 0 0 (F0 m pc ls st0) rest (XQi D y ad L M q a) (XA ad M))
    (kk : ∀ (H1 : Heap) (locs1 : List Loc), XH D y ad LZ NZ σ' s.heap H1 locs1 → W p l e R s m args below meth c H1 locs1 cells slots Q (F0 m (pc + 3) ls (.int q.1 :: rest))) : W p l e R s m args below meth c H locs cells slots Q (F0 m pc ls st0) := by
  subst es
  refine z_back hI hE (fun j _ => by rw [Nat.zero_add]) hw (q := q) (σ' := mgS M σ q.2) (fun j hj => ?_) (fun i hi h => xc_eq ?_ rfl) hr kk
  · funext k; simp [mgS, hj]
  · have : ¬ i < M := fun h1 => h i h1 (Nat.zero_add _)
    funext k; simp [mgS, this]
theorem z_backp1 (hI : XI ad NZ) (hE : Emb o L LZ M NZ) (hw : XH D y ad LZ NZ σ s.heap H locs) {st0 : List Value} {a : Array Value} {q : Int32} (hr : va_Run p l e R s m args below meth c H locs cells slots 0 0 (F0 m pc ls st0) rest (XQi D y (fun j => ad (o + j)) L M (q, shS o σ) a) (XA (fun j => ad (o + j)) M))
    (kk : ∀ (H1 : Heap) (locs1 : List Loc), XH D y ad LZ NZ σ s.heap H1 locs1 → W p l e R s m args below meth c H1 locs1 cells slots Q (F0 m (pc + 3) ls (.int q :: rest))) : W p l e R s m args below meth c H locs cells slots Q (F0 m pc ls st0) :=
  z_back hI hE (fun j _ => rfl) hw (q := (q, shS o σ)) (σ' := σ) (fun j _ => rfl) (fun _ _ _ => rfl) hr kk
theorem z_back1 (hI : XI ad NZ) (hE : Emb o L LZ M NZ) (hw : XH D y ad LZ NZ σ s.heap H locs) {st0 : List Value} {a : Array Value} {q : Int32 × S} {σ' : S} (es : σ' = ptS o M σ q.2) (hr : va_Run p l e R s m args below meth c H locs cells slots 0 0 (F0 m pc ls st0) rest (XQi D y (fun j => ad (o + j)) L M q a) (XA (fun j => ad (o + j)) M))
    (kk : ∀ (H1 : Heap) (locs1 : List Loc), XH D y ad LZ NZ σ' s.heap H1 locs1 → W p l e R s m args below meth c H1 locs1 cells slots Q (F0 m (pc + 3) ls (.int q.1 :: rest))) : W p l e R s m args below meth c H locs cells slots Q (F0 m pc ls st0) := by
  subst es
  refine z_back hI hE (fun j _ => rfl) hw (q := q) (σ' := ptS o M σ q.2) (fun j hj => ?_) (fun i hi h => xc_eq ?_ rfl) hr kk
  · funext k
    have : o ≤ o + j ∧ o + j < o + M := by omega
    simp [ptS, this]
  · have : ¬ (o ≤ i ∧ i < o + M) := fun h1 => h (i - o) (by omega) (by omega)
    funext k; simp [ptS, this]
/-- writes in cells that are new need no telling -/
theorem z_forget {g : JFrame} {locs' : List Loc} (hf : ∀ q ∈ locs, q.base < s.heap.size → q ∈ locs') (kk : W p l e R s m args below meth c H locs' cells slots Q g) : W p l e R s m args below meth c H locs cells slots Q g :=
  fun T hT X => kk T hT { X with same := X.same.weaken hf (Nat.le_refl _) (Nat.le_refl _) }
def oldL (s : State) (locs : List Loc) : List Loc := locs.filter (fun q => decide (q.base < s.heap.size))
/-- the world's new cells are let go -/
theorem z_drop {LN : XL} {N : Nat} (hE : Emb 0 L LZ M NZ) (hnew : ∀ j, M ≤ j → j < NZ → s.heap.size ≤ ad j) (hw : XH D y ad LZ NZ σ s.heap H locs) : XH D y ad L M σ s.heap H (oldL s locs) := by
  refine ⟨emb_P hE (fun j _ => by rw [Nat.zero_add]) (fun j _ => by rw [Nat.zero_add]) hw.1, hw.2.1, fun q h1 h2 => hw.2.2.1 q h1 ?_, fun x hx => ?_⟩
  · rintro ⟨j, hj, h⟩
    by_cases hM : j < M
    · exact h2 ⟨j, hM, h⟩
    · exact absurd (h ▸ h1 : ad j < s.heap.size) (Nat.not_lt.mpr (hnew j (by omega) hj))
  · obtain ⟨g1, g2⟩ := List.mem_filter.mp hx
    have g2 := of_decide_eq_true g2
    obtain ⟨j, hj, h⟩ := hw.2.2.2 x g1
    by_cases hM : j < M
    · exact ⟨j, hM, h⟩
    · exact absurd (h ▸ g2 : ad j < s.heap.size) (Nat.not_lt.mpr (hnew j (by omega) hj))
theorem z_cg {ad' : Nat → Nat} (hL : Lok L M) (hd : ∀ j, j < M → ad' j = ad j) (hw : XH D y ad L M σ s.heap H locs) : XH D y ad' L M σ s.heap H locs := by
  have hE : Emb 0 L L M M := ⟨by omega, hL, fun j _ => by rw [Nat.zero_add, shf_0]⟩
  refine ⟨emb_P hE (fun j hj => by rw [Nat.zero_add]; exact hd j hj) (fun j _ => by rw [Nat.zero_add]) hw.1, hw.2.1, fun q h1 h2 => hw.2.2.1 q h1 ?_, fun x hx => ?_⟩
  · rintro ⟨j, hj, h⟩
    exact h2 ⟨j, hj, by rw [hd j hj]; exact h⟩
  · obtain ⟨j, hj, h⟩ := hw.2.2.2 x hx
    exact ⟨j, hj, by rw [hd j hj]; exact h⟩
/-- a new row of numbers, as the cell behind the world's last -/
theorem z_new {n : Int32} {K : Nat} (C0 : CallFix p m c cc nL s args lwT own) (hK : XK D y s) (harr : Cond.arrayClass .int ∈ lwT) (hI : XI ad M) (hw : XH D y ad L M σ s.heap H locs) (hok : Lok L M) (hLZ : ∀ j, j < M → LZ j = L j) {r : Nat → Nat} (hLM : LZ M = (0, K, r)) {σ' : S} (es : σ' = zrS M σ) (hn : ¬ n < 0) (hN : n.toNatClampNeg = K) (hK4 : K * 4 ≤ 536870912) (hcells : cells + 1 ≤ R.cells) (hslots : slots + K ≤ R.slots) (hdg : decode cc pc = .ok (.newarray .int, 2))
    (kk : ∀ (ad' : Nat → Nat) (H1 : Heap), (∀ j, j < M → ad' j = ad j) → s.heap.size ≤ ad' M → XI ad' (M + 1) → XH D y ad' LZ (M + 1) σ' s.heap H1 locs → W p l e R s m args below meth c H1 locs (cells + 1) (slots + K) Q (F0 m (pc + 2) ls (.ref (ad' M) :: rest))) : W p l e R s m args below meth c H locs cells slots Q (F0 m pc ls (.int n :: rest)) := by
  subst es
  have hA : ∀ x, XA ad M x → (fun x => XA ad M x ∨ s.heap.size ≤ x) x := fun x h => Or.inl h
  have hS : va_S (fun x => XA ad M x ∨ s.heap.size ≤ x) s.heap H locs := ⟨hw.2.1, fun q h1 h2 => hw.2.2.1 q h1 (fun h => h2 (Or.inl h)), fun x hx => Or.inl (hw.2.2.2 x hx)⟩
  have hD : va_D (fun x => XA ad M x ∨ s.heap.size ≤ x) (wx y ad L M σ) := ⟨(xD hI).1, fun k q hk => Or.inl ((xD hI).2 k q hk)⟩
  obtain ⟨B, hB⟩ : ∃ B, H.size = B := ⟨_, rfl⟩
  refine y_newA (atype := .int) (t := 0) (ty := .int) (a0 := (K, .inl (fun _ => 0))) C0 rfl (fun C h => by cases h) harr rfl hK.1 hw.1 hD hS (fun q h => Or.inr h) (fun cA => rfl) hn hN hK4 hcells hslots hB hdg (fun H1 hP1 hD1 hS1 hz => ?_)
  have hfar : ∀ j, j < M → ad j < B := fun j hj => by
    have := (hw.1 j _ (wx_at hj)).lt
    rw [hB] at this
    exact this
  have key := kk (fun j => if j = M then B else ad j) H1 (fun j hj => by simp [show j ≠ M by omega]) (by simpa [← hB] using hw.2.1)
    (fun i j hi hj hij => by
      by_cases h1 : i = M <;> by_cases h2 : j = M
      · omega
      · have := hfar j (by omega)
        simp [h1, h2] at hij
        omega
      · have := hfar i (by omega)
        simp [h1, h2] at hij
        omega
      · simp [h1, h2] at hij
        exact hI i j (by omega) (by omega) hij)
  simp only [if_pos] at key
  refine key ⟨fun k x hx => ?_, hS1.1, fun q h1 h2 => ?_, fun x hx => ?_⟩
  · obtain ⟨hk, rfl⟩ := wx_get hx
    by_cases hkM : k = M
    · subst hkM
      have hlast := hP1 k (B, .inl (y 0, K, .inl (fun _ => 0))) (by
        have hlen : (wx y ad L k σ).length = k := by simp [wx]
        rw [List.getElem?_append_right (by omega), hlen, Nat.sub_self]
        rfl)
      have e1 : xc y (fun j => if j = k then B else ad j) LZ (zrS k σ) k = .inl (y 0, K, .inl (fun _ => 0)) := by
        have h0 : (zrS k σ).1 k = fun _ => 0 := by funext b; simp [zrS]
        simp [xc, hLM, h0]
      rw [e1]
      simpa using hlast
    · have hkl : k < M := by omega
      have h0 := hP1 k _ (by rw [List.getElem?_append_left (by simpa [wx] using hkl)]; exact wx_at hkl)
      have hE : Emb 0 L LZ M (M + 1) := ⟨by omega, hok, fun j hj => by rw [Nat.zero_add, shf_0]; exact hLZ j hj⟩
      have h2 := (emb_at (D := D) (y := y) (ad := fun j => if j = M then B else ad j) (aa := ad) (σ := zrS M σ) (τ := σ) (H := H1) hE (fun j hj => by simp [show j ≠ M by omega]) hkl (by funext b; simp [zrS, hkM])).mpr h0
      simpa using h2
  · refine hw.2.2.1 q h1 ?_ ▸ ?_
    · rintro ⟨j, hj, h⟩
      exact h2 ⟨j, by omega, by simp [show j ≠ M by omega, h]⟩
    · have := hS1.2.1 q h1 (fun h => by
        rcases h with ⟨j, hj, h⟩ | h
        · exact h2 ⟨j, by omega, by simp [show j ≠ M by omega, h]⟩
        · omega)
      rw [this]
      exact (hw.2.2.1 q h1 (by
        rintro ⟨j, hj, h⟩
        exact h2 ⟨j, by omega, by simp [show j ≠ M by omega, h]⟩)).symm ▸ rfl
  · obtain ⟨j, hj, h⟩ := hw.2.2.2 x hx
    exact ⟨j, by omega, by simp [show j ≠ M by omega, h]⟩
/-- the end of a method that has made cells of its own -/
theorem z_zret (hE : Emb 0 L LZ M NZ) (hnew : ∀ j, M ≤ j → j < NZ → s.heap.size ≤ ad j) (C0 : CallFix p m c cc nL s args lwT own) (hK : XK D y s) (hlocks : meth.locks = false) (hr : meth.sig.returnType = some .boolean) (hw : XH D y ad LZ NZ σ s.heap H locs) {v : Int32} {q : Int32 × S} (hb : isb v = true) (ho : (v, σ) = q) (hdg : decode cc pc = .ok (.ireturn, 1)) : W p l e R s m args below meth c H locs cells slots (MQ below (XQi D y ad L M q) args s cells slots (XA ad M)) (F0 m pc ls [.int v]) :=
  z_forget (locs' := oldL s locs) (fun x hx h => List.mem_filter.mpr ⟨hx, decide_eq_true h⟩) (x_zret C0 hK hlocks hr (z_drop (LN := L) (N := M) hE hnew hw) hb ho hdg)
end ZR
theorem Lok_X : Lok LX 168 := by
  unfold Lok
  decide +kernel
/-- the class's world and a row -/
def LZ1 (n : Nat) : XL := fun j => if j < 168 then LX j else (0, n, fun _ => 0)
theorem emb_1 {n : Nat} : Emb 0 LX (LZ1 n) 168 169 := ⟨by omega, Lok_X, fun j hj => by rw [Nat.zero_add, shf_0]; simp [LZ1, hj]⟩
/-- two of the class's worlds -/
def LZ2 : XL := fun j => if j < 168 then LX j else if j < 336 then shf 168 (LX (j - 168)) else (0, 1, fun _ => 168)
