def fo {σ : Type} (f : σ → Nat → σ) (s : σ) : Nat → σ
  | 0 => s
  | n + 1 => f (fo f s n) n
theorem fo_dead {σ : Type} {f : σ → Nat → σ} {s : σ} {i : Nat} (h : ∀ k, f (fo f s i) k = fo f s i) : ∀ d, fo f s (i + d) = fo f s i := by
  intro d
  induction d with
  | zero => rfl
  | succ d ih => rw [show i + (d + 1) = (i + d) + 1 from rfl, fo, ih, h]
theorem fo_same {σ : Type} {f : σ → Nat → σ} {s : σ} (h : ∀ k, f s k = s) (n : Nat) : fo f s n = s := by
  have := fo_dead (f := f) (s := s) (i := 0) h n
  rwa [Nat.zero_add] at this
theorem fo_pair {σ τ : Type} (f : σ → Nat → σ) (g : τ → Nat → τ) (s : σ × τ) : ∀ n, fo (fun s i => (f s.1 i, g s.2 i)) s n = (fo f s.1 n, fo g s.2 n) := by
  intro n
  induction n with
  | zero => rfl
  | succ n ih => rw [fo, ih]; rfl
theorem lp_fo {σ : Type} {step : Int32 × S → Option ((Int32 × S) ⊕ (Int32 × S))} (f : σ → Nat → σ) (K : σ → S → Prop) (n : Nat) (hn : n < 2000) (hs : ∀ i s w, i < n → K s w → ∃ w', step (nI i, w) = some (.inr (nI (i + 1), w')) ∧ K (f s i) w') (he : ∀ s w, K s w → step (nI n, w) = some (.inl (nI n, w))) {s : σ} {w : S} (h : K s w) : ∃ w', lp step FU (nI 0, w) = some (nI n, w') ∧ K (fo f s n) w' := by
  obtain ⟨b, h1, w', rfl, h2⟩ := lp_go (step := step) (a := (nI 0, w)) (fun i a => ∃ w', a = (nI i, w') ∧ K (fo f s i) w') (fun b => ∃ w', b = (nI n, w') ∧ K (fo f s n) w') n ⟨w, rfl, h⟩ hn
    (fun i a hi ⟨w', e, hk⟩ => by
      subst e
      obtain ⟨w2, g1, g2⟩ := hs i _ _ hi hk
      exact Or.inl ⟨_, g1, w2, rfl, g2⟩)
    (fun a ⟨w', e, hk⟩ => by
      subst e
      exact ⟨_, he _ _ hk, w', rfl, hk⟩)
  exact ⟨w', h1, h2⟩
/-! what both search for -/
abbrev Cd : Type := Option (Nat × Nat × Nat × (Nat × Nat))
def fits (P : Bx) (t x y w : Nat) : Bool := decide (x + axt P t w ≤ P.1 0 ∧ y + ayt P t w ≤ P.1 1) && cok P t x y w
def lower (f : Nat) : Cd → Bool
  | none => true
  | some c => decide (f < c.2.2.2.1)
def st1 (P : Bx) (t y x : Nat) (c : Cd) (w : Nat) : Cd := if (fits P t x y w && lower (flr P t x y w).1 c) = true then some (x, y, w, flr P t x y w) else c
def st0 (P : Bx) (t y x : Nat) (n : Nat) (w : Nat) : Nat := if fits P t x y w = true then n + 1 else n
def ways (P : Bx) (t : Nat) : Nat := if P.2 t 0 = P.2 t 1 then 1 else 2
def nest {σ : Type} (P : Bx) (t : Nat) (st : Nat → Nat → σ → Nat → σ) (s : σ) : σ := fo (fun s y => fo (fun s x => fo (st y x) s (ways P t)) s (P.1 0)) s (P.1 1)
def best (P : Bx) (t : Nat) : Cd := nest P t (st1 P t) none
def cnt (P : Bx) (t : Nat) : Nat := nest P t (st0 P t) 0
def hi1 (P : Bx) (t : Nat) : Cd → Int
  | none => (P.1 2 : Int) - (tl P t : Int)
  | some c => (c.2.2.2.1 : Int) - 1
/-! the class -/
theorem keep_eq (u : S) (g : Nat) (x y : Int32) {w : Nat} (hw : w ≤ 1) : ∃ u', fX1_keep g x y (nI w) u = some u' ∧ (∀ j, j ≠ 154 + g → u'.1 j = u.1 j) ∧ u'.2 = u.2 ∧ u'.1 (154 + g) 1 = u.1 (154 + g) 1 ∧ u'.1 (154 + g) 3 = u.1 (154 + g) 3 + 1 ∧ u'.1 (154 + g) 4 = x ∧ u'.1 (154 + g) 5 = y ∧ u'.1 (154 + g) 6 = nI w ∧ u'.1 (154 + g) 7 = u.1 (154 + g) 1 ∧ u'.1 (154 + g) 8 = u.1 (154 + g) 2 := by
  have hb : isb (nI w) = true := isb_n rfl hw
  simp only [fX1_keep, nm_k]
  rw [gd_t hb]
  refine ⟨_, rfl, fun j hj => ?_, rfl, ?_⟩
  · simp only [up_ne _ _ _ _ hj]
  · simp [up_at]
theorem tall_eq {u : S} {b : Nat} {P : Bx} {i : Nat} (h : CR u b P) (hi : i < P.1 4) : fX5_tall (12 * b + i) u = some (nI (tl P i)) := by
  have c := (h.2 i hi).1
  simp only [fX5_tall, c 2 (by omega), c 4 (by omega), nadd]
  rfl
theorem tl_le {P : Bx} (hW : WF P) {t : Nat} (ht : t < P.1 4) : 1 ≤ tl P t ∧ tl P t ≤ 10 := by
  have wt := hW.2.2.2.2.2.1 t ht
  unfold WT at wt
  unfold tl
  omega
theorem hok_fits {P : Bx} {t x y w : Nat} {c : Cd} (hg : ∀ d, c = some d → d.2.2.2.1 + tl P t ≤ P.1 2) : hok P t x y w (hi1 P t c) = (fits P t x y w && lower (flr P t x y w).1 c) := by
  rw [Bool.eq_iff_iff]
  rcases c with _ | d
  · have e : hi1 P t none = (P.1 2 : Int) - (tl P t : Int) := rfl
    have e2 : lower (flr P t x y w).1 none = true := rfl
    unfold hok fits cok
    rw [e, e2]
    simp only [Bool.and_eq_true, decide_eq_true_eq, and_true]
    constructor
    · rintro ⟨⟨h1, h2⟩, h3⟩
      exact ⟨h1, by omega, h3⟩
    · rintro ⟨h1, h2, h3⟩
      exact ⟨⟨h1, by omega⟩, h3⟩
  · have := hg d rfl
    have e : hi1 P t (some d) = (d.2.2.2.1 : Int) - 1 := rfl
    have e2 : lower (flr P t x y w).1 (some d) = decide ((flr P t x y w).1 < d.2.2.2.1) := rfl
    unfold hok fits cok
    rw [e, e2]
    simp only [Bool.and_eq_true, decide_eq_true_eq]
    constructor
    · rintro ⟨⟨h1, h2⟩, h3⟩
      exact ⟨⟨h1, by omega, h3⟩, by omega⟩
    · rintro ⟨⟨h1, h2, h3⟩, h4⟩
      exact ⟨⟨h1, by omega⟩, h3⟩
/-- the finder's cell after a search for the best -/
def J1 (P : Bx) (t g : Nat) (u0 : S) (c : Cd) (u : S) : Prop := (∀ j, j ≠ 154 + g → u.1 j = u0.1 j) ∧ u.2 = u0.2 ∧ (c = none → u.1 (154 + g) 3 = 0) ∧ ∀ d, c = some d → d.2.2.2.1 + tl P t ≤ P.1 2 ∧ d.1 + axt P t d.2.2.1 ≤ P.1 0 ∧ d.2.1 + ayt P t d.2.2.1 ≤ P.1 1 ∧ d.2.2.1 ≤ 1 ∧ d.2.2.2 = flr P t d.1 d.2.1 d.2.2.1 ∧ (∃ k, 1 ≤ k ∧ k + d.2.2.2.1 ≤ 31 ∧ u.1 (154 + g) 3 = nI k) ∧ u.1 (154 + g) 4 = nI d.1 ∧ u.1 (154 + g) 5 = nI d.2.1 ∧ u.1 (154 + g) 6 = nI d.2.2.1 ∧ u.1 (154 + g) 7 = nI d.2.2.2.1 ∧ u.1 (154 + g) 8 = nI d.2.2.2.2
def J0 (g : Nat) (u0 : S) (n : Nat) (u : S) : Prop := (∀ j, j ≠ 154 + g → u.1 j = u0.1 j) ∧ u.2 = u0.2 ∧ u.1 (154 + g) 3 = nI n
theorem step1 {u0 u : S} {P : Bx} {g b t x y w n : Nat} {c : Cd} {v : Int32} (hW : WF P) (hb : b < 11) (hC : CR u0 b P) (ht : t < P.1 4) (hT : ∀ k, k < 100 → u0.1 (156 + g) k = nI (tpF P k)) (hx : x < 10) (hy : y < 10) (hw : w < n) (hn : n ≤ 2) (hJ : J1 P t g u0 c u) (hv : v.toInt = hi1 P t c) :
    ∃ v' u', gX1_search_67 g b (12 * b + t) 1 (nI n) (nI y) (nI x) (v, nI w, u) = some (.inr (v', nI (w + 1), u')) ∧ J1 P t g u0 (st1 P t y x c w) u' ∧ v'.toInt = hi1 P t (st1 P t y x c w) := by
  obtain ⟨j1, j2, j3, j4⟩ := hJ
  have hCu : CR u b P := CR_of hW.2.2.2.2.1 hC (fun j hj => j1 j (by unfold inB at hj; omega))
  obtain ⟨p', h1, h2⟩ := holds_eq (g := g) (x := x) (y := y) hW hCu hb ht (show w ≤ 1 by omega) (fun k hk => by rw [j1 _ (by omega)]; exact hT k hk) hv (by omega) (by omega)
  rw [hok_fits (fun d hd => (j4 d hd).1)] at h1 h2
  have hf := flr_le hW ht (x := x) (y := y) (w := w)
  have hk0 : gX1_search_67 g b (12 * b + t) 1 (nI n) (nI y) (nI x) (v, nI w, u) = ((fX1_holds g b (12 * b + t) (nI x) (nI y) (nI w) v u).bind fun q => if q.1 = 0 then some (.inr (v, nI w + 1, q.2)) else (fX1_keep g (nI x) (nI y) (nI w) q.2).bind fun q5 => some (.inr ((q5.1 (154 + g) 1) - 1, nI w + 1, q5))) := by
    simp only [gX1_search_67]
    rw [if_neg (by rw [nle (by omega) (by omega)]; omega)]
    rcases (show w = 0 ∨ w = 1 by omega) with rfl | rfl
    · rw [if_neg (show ¬ nI 0 = 1 by decide)]
      congr 1
    · rw [if_pos (show nI 1 = 1 from rfl)]
      congr 1
  rw [hk0, h1, Option.bind_some, show nI w + 1 = nI (w + 1) from nadd w 1]
  dsimp only
  by_cases hq : (fits P t x y w && lower (flr P t x y w).1 c) = true
  · have e1 : st1 P t y x c w = some (x, y, w, flr P t x y w) := by unfold st1; rw [if_pos hq]
    have e2 := h2 hq
    subst e2
    obtain ⟨u', k1, k2, k3, k4, k5, k6, k7, k8, k9, k10⟩ := keep_eq (hs u g (flr P t x y w)) g (nI x) (nI y) (show w ≤ 1 by omega)
    have hfit : (x + axt P t w ≤ P.1 0 ∧ y + ayt P t w ≤ P.1 1) ∧ (flr P t x y w).1 + tl P t ≤ P.1 2 ∧ lower (flr P t x y w).1 c = true := by
      simp only [fits, cok, Bool.and_eq_true, decide_eq_true_eq] at hq
      exact ⟨hq.1.1, hq.1.2.1, hq.2⟩
    rw [hq, if_neg (show ¬ b01 true = 0 by decide), k1, Option.bind_some, e1, k4, hs_1]
    refine ⟨_, u', rfl, ⟨fun j hj => ?_, ?_, fun q => (by cases q), fun d hd => ?_⟩, ?_⟩
    · rw [k2 j hj, hs_ne hj, j1 j hj]
    · rw [k3, ← j2]
      rfl
    · cases hd
      refine ⟨hfit.2.1, hfit.1.1, hfit.1.2, (show w ≤ 1 by omega), rfl, ?_, k6, k7, k8, by rw [k9, hs_1], by rw [k10, hs_2]⟩
      rw [k5, hs_k (by omega) (by omega)]
      rcases c with _ | d
      · exact ⟨1, by omega, by show 1 + (flr P t x y w).1 ≤ 31; omega, by rw [j3 rfl]; rfl⟩
      · obtain ⟨-, -, -, -, -, ⟨k, z1, z2, z3⟩, -⟩ := j4 d rfl
        have hl : (flr P t x y w).1 < d.2.2.2.1 := by simpa [lower] using hfit.2.2
        exact ⟨k + 1, by omega, by show k + 1 + (flr P t x y w).1 ≤ 31; omega, by rw [z3]; exact nadd k 1⟩
    · rw [show (1 : Int32) = nI 1 from rfl, subI (by omega) (by omega)]
      rfl
  · have e1 : st1 P t y x c w = c := by unfold st1; rw [if_neg hq]
    rw [Bool.not_eq_true] at hq
    rw [hq, if_pos (show b01 false = 0 from rfl), e1]
    refine ⟨_, _, rfl, ⟨fun j hj => ?_, j2, fun q => ?_, fun d hd => ?_⟩, hv⟩
    · rw [hs_ne hj, j1 j hj]
    · rw [hs_k (by omega) (by omega)]
      exact j3 q
    · obtain ⟨a1, a2, a3, a4, a5, a6, a7, a8, a9, a10, a11⟩ := j4 d hd
      rw [hs_k (by omega) (by omega), hs_k (by omega) (by omega), hs_k (by omega) (by omega), hs_k (by omega) (by omega), hs_k (by omega) (by omega), hs_k (by omega) (by omega)]
      exact ⟨a1, a2, a3, a4, a5, a6, a7, a8, a9, a10, a11⟩
theorem step0 {u0 u : S} {P : Bx} {g b t x y w n c : Nat} {v : Int32} (hW : WF P) (hb : b < 11) (hC : CR u0 b P) (ht : t < P.1 4) (hT : ∀ k, k < 100 → u0.1 (156 + g) k = nI (tpF P k)) (hx : x < 10) (hy : y < 10) (hw : w < n) (hn : n ≤ 2) (hJ : J0 g u0 c u) (hv : v.toInt = hi1 P t none) :
    ∃ v' u', gX1_search_67 g b (12 * b + t) 0 (nI n) (nI y) (nI x) (v, nI w, u) = some (.inr (v', nI (w + 1), u')) ∧ J0 g u0 (st0 P t y x c w) u' ∧ v'.toInt = hi1 P t none := by
  obtain ⟨j1, j2, j3⟩ := hJ
  have hCu : CR u b P := CR_of hW.2.2.2.2.1 hC (fun j hj => j1 j (by unfold inB at hj; omega))
  obtain ⟨p', h1, h2⟩ := holds_eq (g := g) (x := x) (y := y) hW hCu hb ht (show w ≤ 1 by omega) (fun k hk => by rw [j1 _ (by omega)]; exact hT k hk) hv (by omega) (by omega)
  rw [hok_fits (c := none) (fun d hd => by cases hd)] at h1 h2
  have hk0 : gX1_search_67 g b (12 * b + t) 0 (nI n) (nI y) (nI x) (v, nI w, u) = ((fX1_holds g b (12 * b + t) (nI x) (nI y) (nI w) v u).bind fun q => if q.1 = 0 then some (.inr (v, nI w + 1, q.2)) else (fX1_keep g (nI x) (nI y) (nI w) q.2).bind fun q5 => some (.inr (v, nI w + 1, q5))) := by
    simp only [gX1_search_67]
    rw [if_neg (by rw [nle (by omega) (by omega)]; omega)]
    rcases (show w = 0 ∨ w = 1 by omega) with rfl | rfl
    · rw [if_neg (show ¬ nI 0 = 1 by decide)]
      congr 1
    · rw [if_pos (show nI 1 = 1 from rfl)]
      congr 1
  rw [hk0, h1, Option.bind_some, show nI w + 1 = nI (w + 1) from nadd w 1]
  dsimp only
  have hl : lower (flr P t x y w).1 none = true := rfl
  rw [hl, Bool.and_true]
  by_cases hq : fits P t x y w = true
  · obtain ⟨u', k1, k2, k3, k4, k5, k6, k7, k8, k9, k10⟩ := keep_eq (hs u g p') g (nI x) (nI y) (show w ≤ 1 by omega)
    rw [hq, if_neg (show ¬ b01 true = 0 by decide), k1, Option.bind_some]
    refine ⟨_, _, rfl, ⟨fun j hj => ?_, ?_, ?_⟩, hv⟩
    · rw [k2 j hj, hs_ne hj, j1 j hj]
    · rw [k3, ← j2]
      rfl
    · rw [k5, hs_k (by omega) (by omega), j3]
      unfold st0
      rw [if_pos hq]
      exact nadd c 1
  · have e : st0 P t y x c w = c := by unfold st0; rw [if_neg hq]
    rw [Bool.not_eq_true] at hq
    rw [hq, if_pos (show b01 false = 0 from rfl), e]
    refine ⟨_, _, rfl, ⟨fun j hj => ?_, j2, ?_⟩, hv⟩
    · rw [hs_ne hj, j1 j hj]
    · rw [hs_k (by omega) (by omega)]
      exact j3
theorem neg_int {v : Int32} {h : Int} (hv : v.toInt = h) : v < 0 ↔ h < 0 := by
  rw [Int32.lt_iff_toInt_lt, hv]
  rfl
theorem search_g {σ : Type} {st : Nat → Nat → σ → Nat → σ} {J : σ → S → Prop} {hi : σ → Int} {g b tc W L n : Nat} {v3 : Int32} (hn : n ≤ 2) (hW : W ≤ 10) (hL : L ≤ 10)
    (hstep : ∀ y x w s u v, y < 10 → x < 10 → w < n → J s u → v.toInt = hi s → ∃ v' u', gX1_search_67 g b tc v3 (nI n) (nI y) (nI x) (v, nI w, u) = some (.inr (v', nI (w + 1), u')) ∧ J (st y x s w) u' ∧ v'.toInt = hi (st y x s w))
    (hbox : ∀ s u, J s u → u.1 (132 + b) 0 = nI W ∧ u.1 (132 + b) 1 = nI L) (hdead : ∀ y x s w, hi s < 0 → st y x s w = s)
    {s : σ} {u : S} {v : Int32} (hJ : J s u) (hv : v.toInt = hi s) : ∃ v' z u', lp (gX1_search_33 g b tc v3 (nI n)) FU (v, 0, u) = some (v', z, u') ∧ J (fo (fun s y => fo (fun s x => fo (st y x) s n) s W) s L) u' := by
  have hway : ∀ y x s u v, y < 10 → x < 10 → J s u → v.toInt = hi s → ∃ v' u', lp (gX1_search_67 g b tc v3 (nI n) (nI y) (nI x)) FU (v, 0, u) = some (v', nI n, u') ∧ J (fo (st y x) s n) u' ∧ v'.toInt = hi (fo (st y x) s n) := fun y x s u v hy hx hJ hv => by
    obtain ⟨e, h1, v', u', rfl, h2, h3⟩ := lp_go (step := gX1_search_67 g b tc v3 (nI n) (nI y) (nI x)) (a := (v, 0, u)) (fun i a => ∃ v' u', a = (v', nI i, u') ∧ J (fo (st y x) s i) u' ∧ v'.toInt = hi (fo (st y x) s i)) (fun a => ∃ v' u', a = (v', nI n, u') ∧ J (fo (st y x) s n) u' ∧ v'.toInt = hi (fo (st y x) s n)) n ⟨v, u, rfl, hJ, hv⟩ (by omega)
      (fun i a hi' ⟨v', u', e, k1, k2⟩ => by
        subst e
        obtain ⟨v2, u2, g1, g2, g3⟩ := hstep y x i _ _ _ hy hx hi' k1 k2
        exact Or.inl ⟨_, g1, v2, u2, rfl, g2, g3⟩)
      (fun a ⟨v', u', e, k1, k2⟩ => by
        subst e
        refine ⟨(v', nI n, u'), ?_, v', u', rfl, k1, k2⟩
        simp only [gX1_search_67]
        rw [if_pos (by rw [nle (by omega) (by omega)]; omega)])
    exact ⟨v', u', h1, h2, h3⟩
  have hdx : ∀ y s, hi s < 0 → ∀ k, fo (st y k) s n = s := fun y s h k => fo_same (fun w => hdead y k s w h) n
  have hrow : ∀ y s u v, y < 10 → J s u → v.toInt = hi s → ∃ v' z u', lp (gX1_search_50 g b tc v3 (nI n) (nI y)) FU (v, 0, u) = some (v', z, u') ∧ J (fo (fun s x => fo (st y x) s n) s W) u' ∧ v'.toInt = hi (fo (fun s x => fo (st y x) s n) s W) := fun y s u v hy hJ hv => by
    obtain ⟨e, h1, v', z, u', rfl, h2, h3⟩ := lp_go (step := gX1_search_50 g b tc v3 (nI n) (nI y)) (a := (v, 0, u)) (fun i a => ∃ v' u', a = (v', nI i, u') ∧ J (fo (fun s x => fo (st y x) s n) s i) u' ∧ v'.toInt = hi (fo (fun s x => fo (st y x) s n) s i)) (fun a => ∃ v' z u', a = (v', z, u') ∧ J (fo (fun s x => fo (st y x) s n) s W) u' ∧ v'.toInt = hi (fo (fun s x => fo (st y x) s n) s W)) W ⟨v, u, rfl, hJ, hv⟩ (by omega)
      (fun i a hi' ⟨v', u', e, k1, k2⟩ => by
        subst e
        simp only [gX1_search_50, (hbox _ _ k1).1]
        rw [if_neg (by rw [nle (by omega) (by omega)]; omega)]
        by_cases hneg : v' < 0
        · right
          rw [if_pos hneg]
          have hd := (neg_int k2).mp hneg
          have : fo (fun s x => fo (st y x) s n) s W = fo (fun s x => fo (st y x) s n) s i := by
            have := fo_dead (f := fun s x => fo (st y x) s n) (s := s) (i := i) (fun k => hdx y _ hd k) (W - i)
            rwa [show i + (W - i) = W by omega] at this
          exact ⟨_, rfl, v', nI i, u', rfl, by rw [this]; exact k1, by rw [this]; exact k2⟩
        · left
          rw [if_neg hneg]
          obtain ⟨v2, u2, g1, g2, g3⟩ := hway y i _ _ _ hy (by omega) k1 k2
          rw [g1, Option.bind_some, show nI i + 1 = nI (i + 1) from nadd i 1]
          exact ⟨_, rfl, v2, u2, rfl, g2, g3⟩)
      (fun a ⟨v', u', e, k1, k2⟩ => by
        subst e
        refine ⟨(v', nI W, u'), ?_, v', nI W, u', rfl, k1, k2⟩
        simp only [gX1_search_50, (hbox _ _ k1).1]
        rw [if_pos (by rw [nle (by omega) (by omega)]; omega)])
    exact ⟨v', z, u', h1, h2, h3⟩
  have hdy : ∀ s, hi s < 0 → ∀ k, fo (fun s x => fo (st k x) s n) s W = s := fun s h k => fo_same (fun x => hdx k s h x) W
  obtain ⟨e, h1, v', z, u', rfl, h2⟩ := lp_go (step := gX1_search_33 g b tc v3 (nI n)) (a := (v, 0, u)) (fun i a => ∃ v' u', a = (v', nI i, u') ∧ J (fo (fun s y => fo (fun s x => fo (st y x) s n) s W) s i) u' ∧ v'.toInt = hi (fo (fun s y => fo (fun s x => fo (st y x) s n) s W) s i)) (fun a => ∃ v' z u', a = (v', z, u') ∧ J (fo (fun s y => fo (fun s x => fo (st y x) s n) s W) s L) u') L ⟨v, u, rfl, hJ, hv⟩ (by omega)
    (fun i a hi' ⟨v', u', e, k1, k2⟩ => by
      subst e
      simp only [gX1_search_33, (hbox _ _ k1).2]
      rw [if_neg (by rw [nle (by omega) (by omega)]; omega)]
      by_cases hneg : v' < 0
      · right
        rw [if_pos hneg]
        have hd := (neg_int k2).mp hneg
        have : fo (fun s y => fo (fun s x => fo (st y x) s n) s W) s L = fo (fun s y => fo (fun s x => fo (st y x) s n) s W) s i := by
          have := fo_dead (f := fun s y => fo (fun s x => fo (st y x) s n) s W) (s := s) (i := i) (fun k => hdy _ hd k) (L - i)
          rwa [show i + (L - i) = L by omega] at this
        exact ⟨_, rfl, v', nI i, u', rfl, by rw [this]; exact k1⟩
      · left
        rw [if_neg hneg]
        obtain ⟨v2, z2, u2, g1, g2, g3⟩ := hrow i _ _ _ (by omega) k1 k2
        rw [g1, Option.bind_some, show nI i + 1 = nI (i + 1) from nadd i 1]
        exact ⟨_, rfl, v2, u2, rfl, g2, g3⟩)
    (fun a ⟨v', u', e, k1, k2⟩ => by
      subst e
      refine ⟨(v', nI L, u'), ?_, v', nI L, u', rfl, k1⟩
      simp only [gX1_search_33, (hbox _ _ k1).2]
      rw [if_pos (by rw [nle (by omega) (by omega)]; omega)])
  exact ⟨v', z, u', h1, h2⟩
theorem st1_dead {P : Bx} {t : Nat} (y x : Nat) (c : Cd) (w : Nat) (h : hi1 P t c < 0) : st1 P t y x c w = c := by
  unfold st1
  rw [if_neg]
  intro q
  rcases c with _ | d
  · simp only [fits, cok, hi1, Bool.and_eq_true, decide_eq_true_eq] at q h
    omega
  · simp only [lower, hi1, Bool.and_eq_true, decide_eq_true_eq] at q h
    omega
theorem st0_dead {P : Bx} {t : Nat} (y x c w : Nat) (h : hi1 P t none < 0) : st0 P t y x c w = c := by
  unfold st0
  rw [if_neg]
  intro q
  simp only [fits, cok, hi1, Bool.and_eq_true, decide_eq_true_eq] at q h
  omega
theorem search_pre {u : S} {P : Bx} {g b t : Nat} {v3 : Int32} (hW : WF P) (hb : b < 11) (hC : CR u b P) (ht : t < P.1 4) : ∃ v, v.toInt = hi1 P t none ∧ fX1_search g b (12 * b + t) v3 u = (lp (gX1_search_33 g b (12 * b + t) v3 (nI (ways P t))) FU (v, 0, up u (154 + g) 3 0)).bind fun e => some e.2.2 := by
  have htl := tl_le hW ht
  have w2 := hW.2.2.1
  have wt := hW.2.2.2.2.2.1 t ht
  have hC1 : CR (up u (154 + g) 3 0) b P := CR_of hW.2.2.2.2.1 hC (fun j hj => up_ne _ _ _ _ (by unfold inB at hj; omega))
  refine ⟨nI (P.1 2) - nI (tl P t), subI (by omega) (by omega), ?_⟩
  simp only [fX1_search, nm_k, fX0_highestFloor, tall_eq hC1 ht, Option.bind_some, hC1.1 2 (show 2 < 5 by omega), (hC1.2 t ht).1 0 (show 0 < 7 by omega), (hC1.2 t ht).1 1 (show 1 < 7 by omega)]
  unfold WT at wt
  unfold ways
  by_cases h : P.2 t 0 = P.2 t 1
  · rw [if_pos (by rw [h]), if_pos h]
    rfl
  · rw [if_neg (by rw [neq (by omega) (by omega)]; exact h), if_neg h]
    rfl
theorem ways_le {P : Bx} {t : Nat} : ways P t ≤ 2 := by
  unfold ways
  split <;> omega
theorem search1_eq {u : S} {P : Bx} {g b t : Nat} (hW : WF P) (hb : b < 11) (hC : CR u b P) (ht : t < P.1 4) (hT : ∀ k, k < 100 → u.1 (156 + g) k = nI (tpF P k)) : ∃ u', fX1_search g b (12 * b + t) 1 u = some u' ∧ J1 P t g u (best P t) u' := by
  obtain ⟨v, hv, he⟩ := search_pre (g := g) (v3 := 1) hW hb hC ht
  have w0 := hW.1
  have w1 := hW.2.1
  obtain ⟨v', z, u', h1, h2⟩ := search_g (g := g) (b := b) (tc := 12 * b + t) (v3 := 1) (st := st1 P t) (J := J1 P t g u) (hi := hi1 P t) (n := ways P t) (W := P.1 0) (L := P.1 1) ways_le (by omega) (by omega) (fun y x w s u' v hy hx hw hJ hv => step1 hW hb hC ht hT hx hy hw ways_le hJ hv) (fun s u' hJ => by
    have hCu : CR u' b P := CR_of hW.2.2.2.2.1 hC (fun j hj => hJ.1 j (by unfold inB at hj; omega))
    exact ⟨hCu.1 0 (by omega), hCu.1 1 (by omega)⟩) (fun y x s w h => st1_dead y x s w h) (s := none) (u := up u (154 + g) 3 0) ⟨fun j hj => up_ne _ _ _ _ hj, rfl, fun _ => by simp [up], fun d hd => by cases hd⟩ hv
  refine ⟨u', ?_, h2⟩
  rw [he, h1, Option.bind_some]
theorem search0_eq {u : S} {P : Bx} {g b t : Nat} (hW : WF P) (hb : b < 11) (hC : CR u b P) (ht : t < P.1 4) (hT : ∀ k, k < 100 → u.1 (156 + g) k = nI (tpF P k)) : ∃ u', fX1_search g b (12 * b + t) 0 u = some u' ∧ J0 g u (cnt P t) u' := by
  obtain ⟨v, hv, he⟩ := search_pre (g := g) (v3 := 0) hW hb hC ht
  have w0 := hW.1
  have w1 := hW.2.1
  obtain ⟨v', z, u', h1, h2⟩ := search_g (g := g) (b := b) (tc := 12 * b + t) (v3 := 0) (st := st0 P t) (J := J0 g u) (hi := fun _ => hi1 P t none) (n := ways P t) (W := P.1 0) (L := P.1 1) ways_le (by omega) (by omega) (fun y x w s u' v hy hx hw hJ hv => step0 hW hb hC ht hT hx hy hw ways_le hJ hv) (fun s u' hJ => by
    have hCu : CR u' b P := CR_of hW.2.2.2.2.1 hC (fun j hj => hJ.1 j (by unfold inB at hj; omega))
    exact ⟨hCu.1 0 (by omega), hCu.1 1 (by omega)⟩) (fun y x s w h => st0_dead y x s w h) (s := 0) (u := up u (154 + g) 3 0) ⟨fun j hj => up_ne _ _ _ _ hj, rfl, by simp [up]; rfl⟩ hv
  refine ⟨u', ?_, h2⟩
  rw [he, h1, Option.bind_some]
