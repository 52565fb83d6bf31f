theorem Lok_2 : Lok LZ2 336 := by
  unfold Lok
  decide +kernel
theorem Lok_1 : Lok (LZ1 1) 169 := by
  unfold Lok
  decide +kernel
theorem lz2_lo {j : Nat} (h : j < 168) : LZ2 j = LX j := by simp [LZ2, h]
theorem lz2_hi {j : Nat} (h : j < 168) : LZ2 (168 + j) = shf 168 (LX j) := by
  simp only [LZ2]
  rw [if_neg (by omega), if_pos (by omega), Nat.add_sub_cancel_left]
theorem emb_20 : Emb 0 LX LZ2 168 336 := ⟨by omega, Lok_X, fun j hj => by rw [Nat.zero_add, shf_0]; exact lz2_lo hj⟩
theorem emb_30 : Emb 0 LX LZ2 168 337 := ⟨by omega, Lok_X, fun j hj => by rw [Nat.zero_add, shf_0]; exact lz2_lo hj⟩
theorem emb_21 : Emb 168 LX LZ2 168 336 := ⟨by omega, Lok_X, fun j hj => lz2_hi hj⟩
theorem emb_31 : Emb 168 LX LZ2 168 337 := ⟨by omega, Lok_X, fun j hj => lz2_hi hj⟩
theorem emb_3b : Emb 168 (LZ1 1) LZ2 169 337 := ⟨by omega, Lok_1, fun j hj => by
  by_cases h : j < 168
  · rw [lz2_hi h]; simp [LZ1, h]
  · have : j = 168 := by omega
    subst this
    simp [LZ2, LZ1, shf]⟩
theorem emb_32 : Emb 0 LZ2 LZ2 336 337 := ⟨by omega, Lok_2, fun j _ => by rw [Nat.zero_add, shf_0]⟩
section ZB
variable {p : Program} {e : Env} {R : Room} {s : State} {m : MethodId} {args : Array Value} {below : List Frame} {meth : Method} {c : Code} {H : Heap} {locs : List Loc} {cells slots : Nat} {Q : State → Prop}
variable {cc : ByteArray} {nL pc : Nat} {ls : Array Slot} {D : va_G} {y : Nat → ClassId} {ad : Nat → Nat} {σ : S}
theorem z_newB (l : Launch) (C0 : CallFix p m c cc nL s args lwT RL) (hK : XK D y s) (hI : XI ad 168) (hw : XH D y ad LX 168 σ s.heap H locs) (hl : ls.size = nL) {σ' : S} (es : σ' = niS σ) (hc : cells + 168 ≤ R.cells) (hs : slots + 2424 ≤ R.slots) (hR : rX6_init.frames + 1 ≤ R.frames ∧ 8 + (1 + 11) + rX6_init.locals ≤ R.locals)
    (d1 : decode cc pc = .ok (.new 21, 3)) (d2 : decode cc (pc + 3) = .ok (.dup, 1)) (d3 : decode cc (pc + 4) = .ok (.invokespecial 87, 3))
    (kk : ∀ (ad' : Nat → Nat) (H1 : Heap) (locs1 : List Loc), (∀ j, j < 168 → ad' j = ad j) → (∀ j, 168 ≤ j → j < 336 → s.heap.size ≤ ad' j) → XI ad' 336 → XH D y ad' LZ2 336 σ' s.heap H1 locs1 → W p l e R s m args below meth c H1 locs1 (cells + 168) (slots + 2424) Q (F0 m (pc + 7) ls [.ref (ad' 335)])) : W p l e R s m args below meth c H locs cells slots Q (F0 m pc ls []) := by
  subst es
  have hA : ∀ q, s.heap.size ≤ q → (fun x => XA ad 168 x ∨ s.heap.size ≤ x) q := fun q h => Or.inr h
  have hS : va_S (fun x => XA ad 168 x ∨ s.heap.size ≤ x) s.heap H locs := ⟨hw.2.1, fun q h1 h2 => hw.2.2.1 q h1 (fun h => h2 (Or.inl h)), fun x hx => Or.inl (hw.2.2.2 x hx)⟩
  have hD : va_D (fun x => XA ad 168 x ∨ s.heap.size ≤ x) (wx y ad LX 168 σ) := ⟨(xD hI).1, fun k q hk => Or.inl ((xD hI).2 k q hk)⟩
  obtain ⟨B, hB⟩ : ∃ B, H.size = B := ⟨_, rfl⟩
  have hfar : ∀ j, j < 168 → ad j < B := fun j hj => by
    have := (hw.1 j _ (wx_at hj)).lt
    rw [hB] at this
    exact this
  have hsB : s.heap.size ≤ B := by rw [← hB]; exact hw.2.1
  refine y_new (pc := pc) (ci := 6) (fs := [.null, .null, .null, .null, .null]) (T := TX6) (N := 5) C0 inX6 tyX6_ok wl_L_21 wo_X6 wn_X6 hK.1 hw.1 hD hS hA rfl (by decide +kernel) (by omega) (by omega) (q := B) hB d1 (fun H hP hD hS hz => ?_)
  refine lv_dup (pc := pc + 3) C0.1 C0.2.1 d2 rfl ?_
  refine y_ctor (pc := pc + 4) (n := 167) (ms := 2419) (w1 := wMain y B) (q := B) hz hP hD hS hA (y_run C0 hK hl (q := B) hz hP (nX6_init l D y B) rfl wc_X6_init wm_L_87 wi_X6_init wn_X6 rfl ⟨rfl, rfl⟩ hdc_X6_init hR (Nat.le_of_ble_eq_true rfl) d3 ⟨by omega, by omega⟩) (Ctg.D gMain) (fun H locs hP hD hS hz => ?_)
  have hP1 : va_P D vwCl (wx y ad LX 168 σ) H := fun k x hx => hP k x (by
    have hk := (List.getElem?_eq_some_iff.mp hx).1
    rw [List.getElem?_append_left hk]; exact hx)
  have hP2 : va_P D vwCl (wMain y B) H := fun k x hx => hP ((wx y ad LX 168 σ).length + k) x (by
    rw [List.getElem?_append_right (by omega)]; simpa using hx)
  have hP3 := world_X hP2
  refine z_forget (locs' := oldL s locs) (fun x hx h => List.mem_filter.mpr ⟨hx, decide_eq_true h⟩) ?_
  refine W.widen (k := cells + 168) (n := slots + 2424) (by omega) (by omega) ?_
  have key := kk (fun j => if j < 168 then ad j else B + adO (j - 168)) H (oldL s locs) (fun j hj => by simp [hj]) (fun j h1 h2 => by
    simp only [show ¬ j < 168 by omega, if_false]
    omega) (fun i j hi hj hij => by
      by_cases h1 : i < 168 <;> by_cases h2 : j < 168
      · simp only [h1, h2, if_true] at hij
        exact hI i j h1 h2 hij
      · simp only [h1, h2, if_true, if_false] at hij
        have := hfar i h1
        omega
      · simp only [h1, h2, if_true, if_false] at hij
        have := hfar j h2
        omega
      · simp only [h1, h2, if_false] at hij
        have := adO_inj (i - 168) (by omega) (j - 168) (by omega) (by omega)
        omega) ⟨fun k x hx => ?_, hS.1, fun q h1 h2 => hS.2.1 q h1 (fun h => ?_), fun x hx => ?_⟩
  · exact key
  · obtain ⟨hk, rfl⟩ := wx_get hx
    by_cases h1 : k < 168
    · have h0 := (emb_at (D := D) (y := y) (ad := fun j => if j < 168 then ad j else B + adO (j - 168)) (aa := ad) (σ := niS σ) (τ := σ) (H := H) emb_20 (fun j hj => by simp [hj]) h1 (by funext b; simp [niS]; intro h; omega)).mpr (hP1 k _ (wx_at h1))
      simpa using h0
    · obtain ⟨i, rfl⟩ : ∃ i, k = 168 + i := ⟨k - 168, by omega⟩
      exact (emb_at (D := D) (y := y) (ad := fun j => if j < 168 then ad j else B + adO (j - 168)) (aa := fun j => B + adO j) (σ := niS σ) (τ := u0) (H := H) emb_21 (fun j hj => by simp only [show ¬ 168 + j < 168 by omega, if_false, Nat.add_sub_cancel_left]) (show i < 168 by omega) (by funext b; simp only [niS]; rw [if_pos (by omega), Nat.add_sub_cancel_left])).mpr (hP3 i _ (wx_at (by omega)))
  · rcases h with ⟨j, hj, h⟩ | h
    · exact h2 ⟨j, by omega, by simp [hj, h]⟩
    · omega
  · obtain ⟨g1, g2⟩ := List.mem_filter.mp hx
    have g2 := of_decide_eq_true g2
    rcases hS.2.2 x g1 with ⟨j, hj, h⟩ | h
    · exact ⟨j, by omega, by simp [hj, h]⟩
    · exact absurd g2 (Nat.not_lt.mpr h)
end ZB
