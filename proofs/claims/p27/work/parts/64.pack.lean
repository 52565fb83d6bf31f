theorem fo_inv {σ : Type} {f : σ → Nat → σ} (I : σ → Prop) {n : Nat} (hs : ∀ s i, i < n → I s → I (f s i)) {s : σ} (h : I s) : I (fo f s n) := by
  have : ∀ m, m ≤ n → I (fo f s m) := by
    intro m
    induction m with
    | zero => intro _; exact h
    | succ m ih => intro hm; exact hs _ _ (by omega) (ih (by omega))
  exact this n (Nat.le_refl n)
theorem fo_cong {σ : Type} {f g : σ → Nat → σ} {s : σ} : ∀ {n : Nat}, (∀ s i, i < n → f s i = g s i) → fo f s n = fo g s n := by
  intro n
  induction n with
  | zero => intro _; rfl
  | succ n ih =>
    intro h
    rw [fo, fo, ih (fun s i hi => h s i (by omega)), h _ _ (by omega)]
def GD (P : Bx) (t : Nat) (c : Cd) : Prop := ∀ d, c = some d → (d.1 + axt P t d.2.2.1 ≤ P.1 0 ∧ d.2.1 + ayt P t d.2.2.1 ≤ P.1 1) ∧ d.2.2.1 ≤ 1 ∧ (flr P t d.1 d.2.1 d.2.2.1).1 + tl P t ≤ P.1 2 ∧ d.2.2.2 = flr P t d.1 d.2.1 d.2.2.1
theorem best_ok {P : Bx} {t : Nat} {d : Nat × Nat × Nat × (Nat × Nat)} (h : best P t = some d) : (d.1 + axt P t d.2.2.1 ≤ P.1 0 ∧ d.2.1 + ayt P t d.2.2.1 ≤ P.1 1) ∧ d.2.2.1 ≤ 1 ∧ (flr P t d.1 d.2.1 d.2.2.1).1 + tl P t ≤ P.1 2 ∧ d.2.2.2 = flr P t d.1 d.2.1 d.2.2.1 := by
  have key : GD P t (best P t) := fo_inv (GD P t) (fun s y hy hs => fo_inv (GD P t) (fun s x hx hs => fo_inv (GD P t) (fun s w hw hs => ?_) hs) hs) (fun d hd => by cases hd)
  · exact key d h
  · intro d hd
    unfold st1 at hd
    by_cases hq : (fits P t x y w && lower (flr P t x y w).1 s) = true
    · rw [if_pos hq] at hd
      cases hd
      simp only [fits, cok, Bool.and_eq_true, decide_eq_true_eq] at hq
      have := ways_le (P := P) (t := t)
      exact ⟨hq.1.1, (show w ≤ 1 by omega), hq.1.2.1, rfl⟩
    · rw [if_neg hq] at hd
      exact hs d hd
def pk (P : Bx) (t : Nat) : Bx := match best P t with
  | none => P
  | some d => plc P t d.1 d.2.1 d.2.2.1
theorem pk_1 {P : Bx} {t : Nat} : (pk P t).1 = P.1 := by
  unfold pk
  split <;> rfl
theorem pk_o {P : Bx} {t a : Nat} (h : a ≠ t) : (pk P t).2 a = P.2 a := by
  unfold pk
  split
  · rfl
  · exact plc_o h
theorem pk_k {P : Bx} {t a k : Nat} (h : k < 5) : (pk P t).2 a k = P.2 a k := by
  by_cases ha : a = t
  · subst ha
    unfold pk
    split
    · rfl
    · exact plc_k h
  · rw [pk_o ha]
theorem pk_WF {P : Bx} {t : Nat} (hW : WF P) (ht : t < P.1 4) (h5 : ¬ P.2 t 5 = 1) : WF (pk P t) := by
  unfold pk
  split
  · exact hW
  · rename_i d hd
    obtain ⟨⟨b1, b2⟩, b3, b4, -⟩ := best_ok hd
    exact plc_WF hW ht h5 b3 b1 b2 b4
theorem pk_rs {P : Bx} {t j : Nat} (hW : WF P) (ht : t < P.1 4) (hj : j < P.1 4) (h5 : ¬ P.2 t 5 = 1) (hjt : j ≠ t) (hj5 : P.2 j 5 = 1) : rs (pk P t) j = rs P j := by
  unfold pk
  split
  · rfl
  · exact plc_rs_o hW ht hj h5 hjt hj5
def Pm (o : Nat → Nat) (n : Nat) : Prop := (∀ k, k < n → o k < n) ∧ (∀ k l, k < n → l < n → o k = o l → k = l) ∧ ∀ i, i < n → ∃ k, k < n ∧ o k = i
/-- the trays of P let down in the order o, the first m of them -/
def pkf (P : Bx) (o : Nat → Nat) (m : Nat) : Bx := fo (fun Q k => pk Q (o k)) (emp P) m
theorem pkf_succ {P : Bx} {o : Nat → Nat} {m : Nat} : pkf P o (m + 1) = pk (pkf P o m) (o m) := rfl
theorem pkf_inv {P : Bx} {o : Nat → Nat} (hW : WF P) (ho : Pm o (P.1 4)) : ∀ {m : Nat}, m ≤ P.1 4 → WF (pkf P o m) ∧ (pkf P o m).1 = P.1 ∧ (∀ i k, k < 5 → (pkf P o m).2 i k = P.2 i k) ∧ ∀ k, m ≤ k → k < P.1 4 → (pkf P o m).2 (o k) 5 = 0 ∧ (pkf P o m).2 (o k) 6 = 0 := by
  intro m
  induction m with
  | zero =>
    intro _
    refine ⟨emp_WF hW, rfl, fun i k hk => ?_, fun k _ _ => ⟨rfl, rfl⟩⟩
    show (if 5 ≤ k then 0 else P.2 i k) = _
    rw [if_neg (by omega)]
  | succ m ih =>
    intro hm
    obtain ⟨i1, i2, i3, i4⟩ := ih (by omega)
    have h5 := (i4 m (by omega) (by omega)).1
    rw [pkf_succ]
    refine ⟨pk_WF i1 (by rw [i2]; exact ho.1 m (by omega)) (by omega), by rw [pk_1, i2], fun i k hk => by rw [pk_k hk, i3 i k hk], fun k hk hkn => ?_⟩
    rw [pk_o (fun q => by have := ho.2.1 k m hkn (by omega) q; omega)]
    exact i4 k (by omega) hkn
theorem pkf_cont {P : Bx} {o : Nat → Nat} (hW : WF P) (ho : Pm o (P.1 4)) {m : Nat} : ∀ {e : Nat}, m + e ≤ P.1 4 → ∀ k, k < m → (pkf P o (m + e)).2 (o k) = (pkf P o m).2 (o k) ∧ ((pkf P o m).2 (o k) 5 = 1 → rs (pkf P o (m + e)) (o k) = rs (pkf P o m) (o k)) := by
  intro e
  induction e with
  | zero => intro _ k _; exact ⟨rfl, fun _ => rfl⟩
  | succ e ih =>
    intro hm k hk
    obtain ⟨h1, h2⟩ := ih (by omega) k hk
    obtain ⟨i1, i2, i3, i4⟩ := pkf_inv hW ho (m := m + e) (by omega)
    have h5 := (i4 (m + e) (by omega) (by omega)).1
    have hne : o k ≠ o (m + e) := fun q => by have := ho.2.1 k (m + e) (by omega) (by omega) q; omega
    rw [show m + (e + 1) = (m + e) + 1 from rfl, pkf_succ]
    refine ⟨by rw [pk_o hne, h1], fun q => ?_⟩
    rw [pk_rs i1 (by rw [i2]; exact ho.1 _ (by omega)) (by rw [i2]; exact ho.1 _ (by omega)) (by omega) hne (by rw [h1]; exact q), h2 q]
/-- the trial still holds what the first p of the order o came to -/
def cmpt (R P : Bx) (o : Nat → Nat) (p : Nat) : Prop := R.1 = P.1 ∧ (∀ i k, i < P.1 4 → k < 5 → R.2 i k = P.2 i k) ∧ ∀ k, k < p → R.2 (o k) = (pkf P o p).2 (o k) ∧ ((pkf P o p).2 (o k) 5 = 1 → rs R (o k) = rs (pkf P o p) (o k))
theorem cmpt_next {P : Bx} {o o' : Nat → Nat} {p : Nat} (hW : WF P) (ho : Pm o (P.1 4)) (hp : p ≤ P.1 4) (he : ∀ k, k < p → o' k = o k) : cmpt (pkf P o (P.1 4)) P o' p := by
  obtain ⟨i1, i2, i3, i4⟩ := pkf_inv hW ho (Nat.le_refl _)
  refine ⟨i2, fun i k _ hk => i3 i k hk, fun k hk => ?_⟩
  have e : pkf P o' p = pkf P o p := fo_cong (fun s i hi => by rw [he i hi])
  have := pkf_cont hW ho (m := p) (e := P.1 4 - p) (by omega) k hk
  rw [show p + (P.1 4 - p) = P.1 4 by omega] at this
  rw [e, he k hk]
  exact this
theorem cmpt_0 {P : Bx} {R : Bx} {o : Nat → Nat} (h1 : R.1 = P.1) (h2 : ∀ i k, i < P.1 4 → k < 5 → R.2 i k = P.2 i k) : cmpt R P o 0 := ⟨h1, h2, fun k hk => absurd hk (by omega)⟩
theorem mxf_upd {f g : Nat → Nat} {t v : Nat} : ∀ {n : Nat}, t < n → f t = 0 → (∀ i, i ≠ t → g i = f i) → g t = v → mxf g n = max (mxf f n) v := by
  intro n ht h0 h1 h2
  apply Nat.le_antisymm
  · refine mxf_le (fun i hi => ?_)
    by_cases hit : i = t
    · subst hit
      rw [h2]
      exact Nat.le_max_right _ _
    · rw [h1 i hit]
      exact Nat.le_trans (le_mxf hi) (Nat.le_max_left _ _)
  · refine Nat.max_le.mpr ⟨mxf_le (fun i hi => ?_), ?_⟩
    · by_cases hit : i = t
      · subst hit
        rw [h0]
        exact Nat.zero_le _
      · rw [← h1 i hit]
        exact le_mxf hi
    · rw [← h2]
      exact le_mxf ht
theorem tpm_plc {P : Bx} {t x y w X Y : Nat} (ht : t < P.1 4) (h5 : ¬ P.2 t 5 = 1) : tpm (plc P t x y w) X Y = max (tpm P X Y) (tpf (plc P t x y w) X Y t) := by
  refine mxf_upd ht ?_ (fun i hi => ?_) rfl
  · unfold tpf
    rw [if_neg (fun q => h5 (cv_in q))]
  · unfold tpf
    rw [cv_c (plc_o hi), tp_c (plc_o hi)]
theorem tT_self {u : S} {g : Nat} {F : Nat → Nat} (h : ∀ k, k < 100 → u.1 (156 + g) k = nI (F k)) : tT u g F = u := by
  apply Prod.ext
  · funext j k
    simp only [tT]
    by_cases h1 : j = 156 + g ∧ k < 100
    · rw [if_pos h1, h1.1, h k h1.2]
    · rw [if_neg h1]
  · rfl
/-- the class lets the rest of an order down -/
theorem ldf_clear {u : S} {P R : Bx} {o : Nat → Nat} {v p : Nat} (hW : WF P) (ho : Pm o (P.1 4)) (hC : CR u 9 R) (hc : cmpt R P o p) (hp : p ≤ P.1 4) (hv : v = 0 ∨ v = 2) (hA : ∀ k, k < P.1 4 → u.1 (163 + v) k = nI (o k)) :
    ∃ u', lp (gX3_letDownFrom_2 v) FU (nI p, u) = some (nI (P.1 4), u') ∧ CR u' 9 (pkf P o p) ∧ (∀ j, ¬ (108 ≤ j ∧ j < 120) → u'.1 j = u.1 j) ∧ u'.2 = u.2 := by
  have hn := hW.2.2.2.2.1
  obtain ⟨c1, c2, c3⟩ := hc
  have hol : ol v = 12 := by rcases hv with rfl | rfl <;> rfl
  obtain ⟨e, h1, u', rfl, h2, h3, h4, h5⟩ := lp_go (step := gX3_letDownFrom_2 v) (a := (nI p, u)) (fun i a => ∃ u', a = (nI (p + i), u') ∧ (∀ j, ¬ (108 ≤ j ∧ j < 120) → u'.1 j = u.1 j) ∧ u'.2 = u.2 ∧ (∀ k, p ≤ k → k < p + i → u'.1 (108 + o k) 5 = 0 ∧ u'.1 (108 + o k) 6 = 0) ∧ ∀ j s, ((s ≠ 5 ∧ s ≠ 6) ∨ ∀ k, p ≤ k → k < p + i → j ≠ 108 + o k) → u'.1 j s = u.1 j s) (fun a => ∃ u', a = (nI (P.1 4), u') ∧ (∀ j, ¬ (108 ≤ j ∧ j < 120) → u'.1 j = u.1 j) ∧ u'.2 = u.2 ∧ (∀ k, p ≤ k → k < P.1 4 → u'.1 (108 + o k) 5 = 0 ∧ u'.1 (108 + o k) 6 = 0) ∧ ∀ j s, ((s ≠ 5 ∧ s ≠ 6) ∨ ∀ k, p ≤ k → k < P.1 4 → j ≠ 108 + o k) → u'.1 j s = u.1 j s) (P.1 4 - p) ⟨u, rfl, fun _ _ => rfl, rfl, fun k a b => absurd b (by omega), fun _ _ _ => rfl⟩ (by omega)
    (fun i a hi ⟨u', e, k1, k2, k3, k4⟩ => by
      subst e
      left
      have e4 : u'.1 (132 + 9) 4 = nI (P.1 4) := by rw [k1 141 (by omega)]; rw [← c1]; exact hC.1 4 (by omega)
      have hok := ho.1 (p + i) (by omega)
      simp only [gX3_letDownFrom_2, e4]
      rw [if_neg (by rw [nle (by omega) (by omega)]; omega), gd_t (by rw [hol]; exact inb_n (by omega) (by omega)), ncl (by omega), k1 (163 + v) (by omega), hA (p + i) (by omega), gd_t (inb_n (by omega) (by omega)), ncl (by omega), leave_eq, Option.bind_some, show nI (p + i) + 1 = nI (p + (i + 1)) from nadd (p + i) 1]
      refine ⟨_, rfl, _, rfl, fun j hj => ?_, k2, fun k a b => ?_, fun j s hs => ?_⟩
      · rw [up_ne _ _ _ _ (by omega), up_ne _ _ _ _ (by omega)]
        exact k1 j hj
      · rw [up_at, up_at, up_at, up_at]
        by_cases hk : k = p + i
        · subst hk
          rw [if_neg (by omega), if_pos (by omega), if_pos (by omega)]
          exact ⟨rfl, rfl⟩
        · have := k3 k a (by omega)
          have hne : o k ≠ o (p + i) := fun q => hk (ho.2.1 _ _ (by omega) (by omega) q)
          rw [if_neg (by omega), if_neg (by omega), if_neg (by omega), if_neg (by omega)]
          exact this
      · rw [up_at, up_at]
        have hne : ¬ (j = 12 * 9 + o (p + i) ∧ (s = 5 ∨ s = 6)) := fun q => by
          rcases hs with hs | hs
          · omega
          · exact hs (p + i) (by omega) (by omega) q.1
        rw [if_neg (by omega), if_neg (by omega)]
        refine k4 j s ?_
        rcases hs with hs | hs
        · exact Or.inl hs
        · exact Or.inr (fun k a b => hs k a (by omega)))
    (fun a ⟨u', e, k1, k2, k3, k4⟩ => by
      subst e
      have e4 : u'.1 (132 + 9) 4 = nI (P.1 4) := by rw [k1 141 (by omega)]; rw [← c1]; exact hC.1 4 (by omega)
      simp only [gX3_letDownFrom_2, e4]
      rw [if_pos (by rw [nle (by omega) (by omega)]; omega)]
      rw [show p + (P.1 4 - p) = P.1 4 by omega] at k3 k4 ⊢
      exact ⟨_, rfl, u', rfl, k1, k2, k3, k4⟩)
  obtain ⟨i1, i2, i3, i4⟩ := pkf_inv hW ho hp
  refine ⟨u', h1, ⟨fun k hk => ?_, fun i hi => ?_⟩, h2, h3⟩
  · rw [h2 (132 + 9) (by omega), i2, ← c1]
    exact hC.1 k hk
  · rw [i2] at hi
    have hct := hC.2 i (by rw [c1]; exact hi)
    obtain ⟨k, hk, rfl⟩ := ho.2.2 i hi
    by_cases hkp : k < p
    · obtain ⟨d1, d2⟩ := c3 k hkp
      have hsame : ∀ s, u'.1 (12 * 9 + o k) s = u.1 (12 * 9 + o k) s := fun s => h5 _ s (Or.inr (fun l a b q => by
        have : o k = o l := by omega
        have := ho.2.1 k l hk b this
        omega))
      unfold CT at hct ⊢
      have hax : ax (pkf P o p) (o k) = ax R (o k) ∧ ay (pkf P o p) (o k) = ay R (o k) := by
        unfold ax ay axt ayt
        rw [d1]
        exact ⟨rfl, rfl⟩
      rw [hax.1, hax.2, ← tp_c d1, ← d1]
      refine ⟨fun s hs => by rw [hsame]; exact hct.1 s hs, fun q => ?_⟩
      rw [← d2 (by rw [← d1]; exact q)]
      simp only [hsame]
      exact hct.2 q
    · obtain ⟨z5, z6⟩ := i4 k (by omega) hk
      obtain ⟨y5, y6⟩ := h4 k (by omega) hk
      refine ⟨fun s hs => ?_, fun q => by omega⟩
      by_cases hs5 : s < 5
      · rw [h5 _ s (Or.inl (by omega)), hct.1 s hs, i3 _ s hs5, c2 _ s hi hs5]
      · rcases (show s = 5 ∨ s = 6 by omega) with rfl | rfl
        · rw [z5]; exact y5
        · rw [z6]; exact y6
