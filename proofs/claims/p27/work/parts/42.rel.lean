/-! the state of a box, as numbers: P.1 0 width, 1 length, 2 depth, 3 share, 4 trays; P.2 i 0 width, 1 length, 2 height, 3 turn, 4 lid, 5 in, 6 turned, 7 x, 8 y, 9 floor -/
abbrev Bx : Type := (Nat → Nat) × (Nat → Nat → Nat)
def axt (P : Bx) (i t : Nat) : Nat := if t = 1 then P.2 i 1 else P.2 i 0
def ayt (P : Bx) (i t : Nat) : Nat := if t = 1 then P.2 i 0 else P.2 i 1
def ax (P : Bx) (i : Nat) : Nat := axt P i (P.2 i 6)
def ay (P : Bx) (i : Nat) : Nat := ayt P i (P.2 i 6)
def tl (P : Bx) (i : Nat) : Nat := P.2 i 2 + P.2 i 4
def tp (P : Bx) (i : Nat) : Nat := P.2 i 9 + tl P i
def cv (P : Bx) (i x y : Nat) : Bool := P.2 i 5 == 1 && (decide (P.2 i 7 ≤ x) && decide (x < P.2 i 7 + ax P i) && decide (P.2 i 8 ≤ y) && decide (y < P.2 i 8 + ay P i))
def mt (P : Bx) (i j : Nat) : Bool := decide (P.2 i 7 < P.2 j 7 + ax P j) && decide (P.2 j 7 < P.2 i 7 + ax P i) && decide (P.2 i 8 < P.2 j 8 + ay P j) && decide (P.2 j 8 < P.2 i 8 + ay P i)
def lo (P : Bx) (i j : Nat) : Bool := P.2 i 5 == 1 && P.2 j 5 == 1 && mt P i j && decide (tp P j ≤ P.2 i 9)
def anyb (n : Nat) (f : Nat → Bool) : Bool := (List.range n).any f
/-- how many cells tray i rests on -/
def sup (P : Bx) (i k : Nat) : Bool := (P.2 i 9 == 0 || anyb (P.1 4) (fun j => !(j == i) && cv P j (k / 10) (k % 10) && tp P j == P.2 i 9)) && cv P i (k / 10) (k % 10)
def rs (P : Bx) (i : Nat) : Nat := fb_ct (sup P i) 100
def WT (P : Bx) (i : Nat) : Prop := (1 ≤ P.2 i 0 ∧ P.2 i 0 ≤ 10) ∧ (1 ≤ P.2 i 1 ∧ P.2 i 1 ≤ 10) ∧ (1 ≤ P.2 i 2 ∧ P.2 i 2 ≤ 9) ∧ P.2 i 3 ≤ 9 ∧ P.2 i 4 ≤ 1 ∧ P.2 i 5 ≤ 1 ∧ P.2 i 6 ≤ 1 ∧ (P.2 i 7 ≤ 10 ∧ P.2 i 8 ≤ 10 ∧ P.2 i 9 ≤ 30) ∧ (P.2 i 5 = 1 → P.2 i 7 + ax P i ≤ P.1 0 ∧ P.2 i 8 + ay P i ≤ P.1 1 ∧ tp P i ≤ P.1 2)
def WF (P : Bx) : Prop := (2 ≤ P.1 0 ∧ P.1 0 ≤ 10) ∧ (2 ≤ P.1 1 ∧ P.1 1 ≤ 10) ∧ (1 ≤ P.1 2 ∧ P.1 2 ≤ 30) ∧ P.1 3 ≤ 100 ∧ P.1 4 ≤ 12 ∧ (∀ i, i < P.1 4 → WT P i) ∧ ∀ i j, i < P.1 4 → j < P.1 4 → i ≠ j → P.2 i 5 = 1 → P.2 j 5 = 1 → mt P i j = true → tp P j ≤ P.2 i 9 ∨ tp P i ≤ P.2 j 9
/-- tray i of box b holds P's tray i -/
def CT (u : S) (b : Nat) (P : Bx) (i : Nat) : Prop := (∀ k, k < 7 → u.1 (12 * b + i) k = nI (P.2 i k)) ∧ (P.2 i 5 = 1 → u.1 (12 * b + i) 7 = nI (P.2 i 7) ∧ u.1 (12 * b + i) 8 = nI (P.2 i 8) ∧ u.1 (12 * b + i) 9 = nI (P.2 i 7 + ax P i) ∧ u.1 (12 * b + i) 10 = nI (P.2 i 8 + ay P i) ∧ u.1 (12 * b + i) 11 = nI (P.2 i 9) ∧ u.1 (12 * b + i) 12 = nI (tp P i) ∧ u.1 (12 * b + i) 13 = nI (rs P i))
/-- box b of the class holds P -/
def CR (u : S) (b : Nat) (P : Bx) : Prop := (∀ k, k < 5 → u.1 (132 + b) k = nI (P.1 k)) ∧ ∀ i, i < P.1 4 → CT u b P i
/-- section p of the reference's page holds P -/
def MR (w : S) (p : Nat) (P : Bx) : Prop := (∀ k, k < 5 → w.1 1 (125 * p + k) = nI (P.1 k)) ∧ ∀ i k, i < P.1 4 → k < 10 → w.1 1 (125 * p + (5 + 10 * i + k)) = nI (P.2 i k)
/-- a tray that is out is not turned -/
def Z6 (P : Bx) : Prop := ∀ i, i < P.1 4 → P.2 i 5 = 0 → P.2 i 6 = 0
/-- the remembered states -/
def HR (u w : S) : Prop := ∃ n o, n ≤ 8 ∧ o < 8 ∧ u.1 158 0 = nI n ∧ u.1 158 1 = nI o ∧ w.1 0 1 = nI n ∧ ∀ k, k < n → ∃ P, WF P ∧ CR u (1 + (o + k) % 8) P ∧ MR w (k + 1) P ∧ Z6 P
/-- the text -/
def TR (u w : S) : Prop := ∃ n, n ≤ 100 ∧ u.1 160 0 = nI n ∧ w.1 0 6 = nI n ∧ (∀ i, i < n → ∃ c, 32 ≤ c ∧ c ≤ 126 ∧ u.1 161 i = nI c ∧ w.1 3 i = nI c) ∧ u.1 160 1 = w.1 0 7
def RR (P : Bx) (u w : S) : Prop := WF P ∧ CR u 0 P ∧ MR w 0 P ∧ HR u w ∧ TR u w ∧ Z6 P
/-- THE INVARIANT -/
def Rl (u w : S) : Prop := ∃ P, RR P u w
/-- the cells of box b -/
def inB (b j : Nat) : Prop := j = 132 + b ∨ (12 * b ≤ j ∧ j < 12 * b + 12)
theorem CR_of {u u' : S} {b : Nat} {P : Bx} (hn : P.1 4 ≤ 12) (h : CR u b P) (he : ∀ j, inB b j → u'.1 j = u.1 j) : CR u' b P := by
  refine ⟨fun k hk => by rw [he _ (Or.inl rfl)]; exact h.1 k hk, fun i hi => ?_⟩
  have := h.2 i hi
  unfold CT at this ⊢
  rw [he _ (Or.inr ⟨by omega, by omega⟩)]
  exact this
theorem MR_of {w w' : S} {p : Nat} {P : Bx} (hn : P.1 4 ≤ 12) (h : MR w p P) (he : ∀ k, k < 125 → w'.1 1 (125 * p + k) = w.1 1 (125 * p + k)) : MR w' p P :=
  ⟨fun k hk => by rw [he _ (by omega)]; exact h.1 k hk, fun i k hi hk => by rw [he _ (by omega)]; exact h.2 i k hi hk⟩
/-- the class's cells that no promise sees: boxes 9 and 10, the finders, the packer, the order's rows, and text's at and number -/
def scrC (j : Nat) : Prop := (108 ≤ j ∧ j < 132) ∨ j = 141 ∨ j = 142 ∨ (143 ≤ j ∧ j < 158) ∨ j = 159 ∨ 162 ≤ j
def SX (u u' : S) : Prop := (∀ j, ¬ scrC j → j ≠ 160 → u'.1 j = u.1 j) ∧ u'.1 160 0 = u.1 160 0 ∧ u'.1 160 1 = u.1 160 1
def SM (w w' : S) : Prop := (∀ k, k < 1125 → w'.1 1 k = w.1 1 k) ∧ w'.1 3 = w.1 3 ∧ w'.1 0 1 = w.1 0 1 ∧ w'.1 0 6 = w.1 0 6 ∧ w'.1 0 7 = w.1 0 7
theorem SX.refl (u : S) : SX u u := ⟨fun _ _ _ => rfl, rfl, rfl⟩
theorem SX.trans {u v x : S} (h1 : SX u v) (h2 : SX v x) : SX u x := ⟨fun j a b => (h2.1 j a b).trans (h1.1 j a b), h2.2.1.trans h1.2.1, h2.2.2.trans h1.2.2⟩
theorem SM.refl (w : S) : SM w w := ⟨fun _ _ => rfl, rfl, rfl, rfl, rfl⟩
theorem SM.trans {u v x : S} (h1 : SM u v) (h2 : SM v x) : SM u x := ⟨fun k a => (h2.1 k a).trans (h1.1 k a), h2.2.1.trans h1.2.1, h2.2.2.1.trans h1.2.2.1, h2.2.2.2.1.trans h1.2.2.2.1, h2.2.2.2.2.trans h1.2.2.2.2⟩
theorem CR.scr {u u' : S} {b : Nat} {P : Bx} (hb : b < 9) (hn : P.1 4 ≤ 12) (h : CR u b P) (hs : SX u u') : CR u' b P :=
  CR_of hn h (fun j hj => hs.1 j (by unfold inB at hj; unfold scrC; omega) (by unfold inB at hj; omega))
theorem MR.scr {w w' : S} {p : Nat} {P : Bx} (hp : p < 9) (hn : P.1 4 ≤ 12) (h : MR w p P) (hs : SM w w') : MR w' p P :=
  MR_of hn h (fun k hk => hs.1 _ (by omega))
theorem HR.scr {u u' w w' : S} (h : HR u w) (h1 : SX u u') (h2 : SM w w') : HR u' w' := by
  obtain ⟨n, o, hn, ho, a, b, c, d⟩ := h
  have e : u'.1 158 = u.1 158 := h1.1 158 (by unfold scrC; omega) (by omega)
  refine ⟨n, o, hn, ho, by rw [e]; exact a, by rw [e]; exact b, by rw [h2.2.2.1]; exact c, fun k hk => ?_⟩
  obtain ⟨P, p1, p2, p3, p4⟩ := d k hk
  exact ⟨P, p1, p2.scr (by omega) p1.2.2.2.2.1 h1, p3.scr (by omega) p1.2.2.2.2.1 h2, p4⟩
theorem TR.scr {u u' w w' : S} (h : TR u w) (h1 : SX u u') (h2 : SM w w') : TR u' w' := by
  obtain ⟨n, hn, a, b, c, d⟩ := h
  have e : u'.1 161 = u.1 161 := h1.1 161 (by unfold scrC; omega) (by omega)
  exact ⟨n, hn, by rw [h1.2.1]; exact a, by rw [h2.2.2.2.1]; exact b, fun i hi => by rw [e, h2.2.1]; exact c i hi, by rw [h1.2.2, h2.2.2.2.2]; exact d⟩
theorem RR.scr {P : Bx} {u u' w w' : S} (h : RR P u w) (h1 : SX u u') (h2 : SM w w') : RR P u' w' :=
  ⟨h.1, h.2.1.scr (by omega) h.1.2.2.2.2.1 h1, h.2.2.1.scr (by omega) h.1.2.2.2.2.1 h2, h.2.2.2.1.scr h1 h2, h.2.2.2.2.1.scr h1 h2, h.2.2.2.2.2⟩
theorem CR0.k {u : S} {b : Nat} {P : Bx} (h : CR u b P) {k : Nat} (hk : k < 5) : u.1 (132 + b) k = nI (P.1 k) := h.1 k hk
/-- at first -/
def P0 : Bx := (fun k => if k = 0 then 6 else if k = 1 then 6 else if k = 2 then 12 else if k = 3 then 50 else 0, fun _ _ => 0)
