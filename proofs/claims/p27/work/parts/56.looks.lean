/-! the highest of a rectangle, and how many are it -/
def stp (p : Nat × Nat) (v : Nat) : Nat × Nat := if v ≤ p.1 then (if v = p.1 then (p.1, p.2 + 1) else p) else (v, 1)
def fsr (p : Nat × Nat) (s : Nat → Nat) : Nat → Nat × Nat
  | 0 => p
  | n + 1 => stp (fsr p s n) (s n)
def fs2 (s : Nat → Nat → Nat) (a : Nat) : Nat → Nat × Nat
  | 0 => (0, 0)
  | n + 1 => fsr (fs2 s a n) (s n) a
theorem fsr_eq (p : Nat × Nat) (s : Nat → Nat) : ∀ n, (fsr p s n).1 = max p.1 (mxf s n) ∧ (fsr p s n).2 = (if p.1 = (fsr p s n).1 then p.2 else 0) + fb_ct (fun i => s i == (fsr p s n).1) n := by
  intro n
  induction n with
  | zero => exact ⟨by simp [fsr, mxf], by simp [fsr, fb_ct]⟩
  | succ n ih =>
    obtain ⟨h1, h2⟩ := ih
    obtain ⟨q, hq⟩ : ∃ q, q = fsr p s n := ⟨_, rfl⟩
    rw [← hq] at h1 h2
    have hm : ∀ i, i < n → s i ≤ mxf s n := fun i hi => le_mxf hi
    simp only [fsr, ← hq, stp]
    by_cases hv : s n ≤ q.1
    · rw [if_pos hv]
      by_cases he : s n = q.1
      · rw [if_pos he]
        simp only [mxf]
        refine ⟨by omega, ?_⟩
        rw [fb_ct_succ, if_pos (show (s n == q.1) = true by simpa using he), ← Nat.add_assoc, ← h2]
      · rw [if_neg he]
        simp only [mxf]
        refine ⟨by omega, ?_⟩
        rw [fb_ct_succ, if_neg (show ¬ (s n == q.1) = true by simpa using he), Nat.add_zero, ← h2]
    · rw [if_neg hv]
      simp only [mxf]
      refine ⟨by omega, ?_⟩
      have hz : fb_ct (fun i => s i == s n) n = 0 := fb_ct_zero.mpr (fun i hi => by
        have := hm i hi
        simp
        omega)
      rw [if_neg (by omega), fb_ct_succ, hz, if_pos (by simp)]
theorem fs2_eq (s : Nat → Nat → Nat) (a : Nat) : ∀ b, (fs2 s a b).1 = mxf (fun j => mxf (s j) a) b ∧ (fs2 s a b).2 = fb_sm (fun j => fb_ct (fun i => s j i == (fs2 s a b).1) a) b := by
  intro b
  induction b with
  | zero => exact ⟨rfl, rfl⟩
  | succ b ih =>
    obtain ⟨h1, h2⟩ := ih
    obtain ⟨g1, g2⟩ := fsr_eq (fs2 s a b) (s b) a
    simp only [fs2, mxf]
    refine ⟨by rw [g1, h1], ?_⟩
    rw [g2, fb_sm_succ]
    congr 1
    by_cases he : (fs2 s a b).1 = (fsr (fs2 s a b) (s b) a).1
    · rw [if_pos he, h2]
      exact fb_sm_cong (fun j _ => by rw [← he])
    · rw [if_neg he]
      symm
      have hz : ∀ j, j < b → fb_ct (fun i => s j i == (fsr (fs2 s a b) (s b) a).1) a = 0 := fun j hj => fb_ct_zero.mpr (fun i hi => by
        have k1 : s j i ≤ mxf (s j) a := le_mxf hi
        have k2 : mxf (s j) a ≤ mxf (fun j => mxf (s j) a) b := le_mxf (f := fun j => mxf (s j) a) hj
        simp
        omega)
      rw [fb_sm_cong hz, fb_sm_const, Nat.mul_zero]
theorem mxf_swap (f : Nat → Nat → Nat) (a b : Nat) : mxf (fun j => mxf (fun i => f i j) a) b = mxf (fun i => mxf (fun j => f i j) b) a := by
  apply Nat.le_antisymm
  · exact mxf_le (fun j hj => mxf_le (fun i hi => Nat.le_trans (le_mxf (f := fun j => f i j) hj) (le_mxf (f := fun i => mxf (fun j => f i j) b) hi)))
  · exact mxf_le (fun i hi => mxf_le (fun j hj => Nat.le_trans (le_mxf (f := fun i => f i j) hi) (le_mxf (f := fun j => mxf (fun i => f i j) a) hj)))
theorem ct_col (p : Nat → Nat → Bool) (a : Nat) : ∀ b, fb_sm (fun i => fb_ct (fun j => p i j) b) a = fb_sm (fun j => fb_ct (fun i => p i j) a) b := by
  intro b
  induction b with
  | zero => rw [show fb_sm (fun j => fb_ct (fun i => p i j) a) 0 = 0 from rfl, show (fun i => fb_ct (fun j => p i j) 0) = fun _ => 0 from rfl, fb_sm_const, Nat.mul_zero]
  | succ b ih =>
    rw [fb_sm_succ, ← ih, show (fun i => fb_ct (fun j => p i j) (b + 1)) = fun i => fb_ct (fun j => p i j) b + (if p i b = true then 1 else 0) from rfl, fb_sm_add]
    congr 1
    clear ih
    induction a with
    | zero => rfl
    | succ a ih => rw [fb_sm_succ, fb_ct_succ, ih]
theorem fs2_swap (f : Nat → Nat → Nat) (a b : Nat) : fs2 (fun j i => f i j) a b = fs2 (fun i j => f i j) b a := by
  obtain ⟨h1, h2⟩ := fs2_eq (fun j i => f i j) a b
  obtain ⟨g1, g2⟩ := fs2_eq (fun i j => f i j) b a
  have e : (fs2 (fun j i => f i j) a b).1 = (fs2 (fun i j => f i j) b a).1 := by rw [h1, g1]; exact mxf_swap f a b
  apply Prod.ext e
  rw [h2, g2, e]
  exact (ct_col (fun i j => f i j == (fs2 (fun i j => f i j) b a).1) a b).symm
theorem fsr_le {p : Nat × Nat} {s : Nat → Nat} {n : Nat} (h : p.1 ≤ 30) (hs : ∀ i, s i ≤ 30) : (fsr p s n).1 ≤ 30 := by
  rw [(fsr_eq p s n).1]
  exact Nat.max_le.mpr ⟨h, mxf_le (fun i _ => hs i)⟩
theorem fs2_le {s : Nat → Nat → Nat} {a b : Nat} (hs : ∀ j i, s j i ≤ 30) : (fs2 s a b).1 ≤ 30 ∧ (fs2 s a b).2 ≤ b * a := by
  obtain ⟨h1, h2⟩ := fs2_eq s a b
  rw [h2]
  refine ⟨?_, fb_sm_bound (fun j _ => fb_ct_le _ _)⟩
  rw [h1]
  exact mxf_le (fun j _ => mxf_le (fun i _ => hs j i))
theorem le_fs2 {s : Nat → Nat → Nat} {a b i j : Nat} (hi : i < a) (hj : j < b) : s j i ≤ (fs2 s a b).1 := by
  rw [(fs2_eq s a b).1]
  exact Nat.le_trans (le_mxf hi) (le_mxf (f := fun j => mxf (s j) a) hj)
theorem mxf_at {f : Nat → Nat} : ∀ {n : Nat}, 0 < n → ∃ i, i < n ∧ mxf f n = f i := by
  intro n
  induction n with
  | zero => intro h; omega
  | succ n ih =>
    intro _
    by_cases h0 : n = 0
    · subst h0
      exact ⟨0, by omega, by simp [mxf]⟩
    · obtain ⟨i, hi, he⟩ := ih (by omega)
      by_cases hm : mxf f n ≤ f n
      · exact ⟨n, by omega, by rw [mxf, Nat.max_eq_right hm]⟩
      · exact ⟨i, by omega, by rw [mxf, Nat.max_eq_left (by omega), he]⟩
theorem fs2_at {s : Nat → Nat → Nat} {a b : Nat} (ha : 0 < a) (hb : 0 < b) : ∃ i j, i < a ∧ j < b ∧ (fs2 s a b).1 = s j i := by
  rw [(fs2_eq s a b).1]
  obtain ⟨j, hj, e1⟩ := mxf_at (f := fun j => mxf (s j) a) hb
  obtain ⟨i, hi, e2⟩ := mxf_at (f := s j) ha
  exact ⟨i, j, hi, hj, by rw [e1]; exact e2⟩
/-- floor and rest of tray t with its corner at x, y -/
def flr (P : Bx) (t x y w : Nat) : Nat × Nat := fs2 (fun j i => tpm P (x + i) (y + j)) (axt P t w) (ayt P t w)
theorem flr_le {P : Bx} (hW : WF P) {t x y w : Nat} (ht : t < P.1 4) : (flr P t x y w).1 ≤ 30 ∧ (flr P t x y w).2 ≤ 100 := by
  have h := fs2_le (s := fun j i => tpm P (x + i) (y + j)) (a := axt P t w) (b := ayt P t w) (fun j i => tpm_le hW)
  have ha := axt_le hW ht w
  refine ⟨h.1, Nat.le_trans h.2 ?_⟩
  exact Nat.mul_le_mul (show ayt P t w ≤ 10 by omega) (show axt P t w ≤ 10 by omega)
/-! the class looks -/
def hs (u : S) (g : Nat) (p : Nat × Nat) : S := (fun j k => if j = 154 + g ∧ k = 1 then nI p.1 else if j = 154 + g ∧ k = 2 then nI p.2 else u.1 j k, u.2)
theorem hs_ne {u : S} {g j : Nat} {p : Nat × Nat} (h : j ≠ 154 + g) : (hs u g p).1 j = u.1 j := by
  funext k
  simp only [hs]
  rw [if_neg (by omega), if_neg (by omega)]
theorem hs_1 {u : S} {g : Nat} {p : Nat × Nat} : (hs u g p).1 (154 + g) 1 = nI p.1 := by simp [hs]
theorem hs_2 {u : S} {g : Nat} {p : Nat × Nat} : (hs u g p).1 (154 + g) 2 = nI p.2 := by simp [hs]
theorem hs_k {u : S} {g k : Nat} {p : Nat × Nat} (h1 : k ≠ 1) (h2 : k ≠ 2) : (hs u g p).1 (154 + g) k = u.1 (154 + g) k := by simp [hs, h1, h2]
theorem hs_up2 {u : S} {g c : Nat} {p : Nat × Nat} : up (hs u g p) (154 + g) 2 (nI c) = hs u g (p.1, c) := by
  apply Prod.ext
  · funext j k
    simp only [up, hs]
    by_cases h1 : j = 154 + g ∧ k = 2
    · rw [if_pos h1, if_neg (by omega), if_pos h1]
    · rw [if_neg h1, if_neg h1]
      by_cases h2 : j = 154 + g ∧ k = 1
      · rw [if_pos h2, if_pos h2]
      · rw [if_neg h2, if_neg h2, if_neg h1]
  · rfl
theorem hs_up1 {u : S} {g c : Nat} {p : Nat × Nat} : up (hs u g p) (154 + g) 1 (nI c) = hs u g (c, p.2) := by
  apply Prod.ext
  · funext j k
    simp only [up, hs]
    by_cases h2 : j = 154 + g ∧ k = 1
    · rw [if_pos h2, if_pos h2]
    · rw [if_neg h2, if_neg h2, if_neg h2]
  · rfl
theorem hs_0 {u : S} {g : Nat} : up (up u (154 + g) 1 0) (154 + g) 2 0 = hs u g (0, 0) := by
  apply Prod.ext
  · funext j k
    simp only [up, hs]
    by_cases h1 : j = 154 + g ∧ k = 2
    · rw [if_pos h1, if_neg (by omega), if_pos h1]
      rfl
    · rw [if_neg h1]
      by_cases h2 : j = 154 + g ∧ k = 1
      · rw [if_pos h2, if_pos h2]
        rfl
      · rw [if_neg h2, if_neg h2, if_neg h1]
  · rfl
theorem le_int {a : Nat} {v : Int32} {h : Int} (hv : v.toInt = h) (ha : a < 1000) : (nI a ≤ v) ↔ (a : Int) ≤ h := by
  rw [Int32.le_iff_toInt_le, nI_toInt (by omega), hv]
theorem holds_in {u : S} {g x y a : Nat} {P : Bx} {v6 : Int32} {h : Int} (hW : WF P) (hT : ∀ k, k < 100 → u.1 (156 + g) k = nI (tpF P k)) (hv : v6.toInt = h) (hx : x + a ≤ 10) (hy : y < 10) (p : Nat × Nat) (hp : p.1 ≤ 30) :
    ∃ r, lp (gX1_holds_60 g v6 (nI (x + a)) (nI y)) FU (nI x, hs u g p) = some r ∧ ((r = .inr (nI (x + a), hs u g (fsr p (fun i => tpm P (x + i) y) a)) ∧ ∀ i, i < a → (tpm P (x + i) y : Int) ≤ h) ∨ ((∃ p', r = .inl (0, hs u g p')) ∧ ∃ i, i < a ∧ h < (tpm P (x + i) y : Int))) := by
  refine lp_go (fun m st => st = (nI (x + m), hs u g (fsr p (fun i => tpm P (x + i) y) m)) ∧ ∀ i, i < m → (tpm P (x + i) y : Int) ≤ h) _ a ⟨rfl, fun i hi => absurd hi (by omega)⟩ (by omega) (fun m st hm hI => ?_) (fun st hI => ?_)
  · obtain ⟨rfl, hle⟩ := hI
    obtain ⟨q, hq⟩ : ∃ q, q = fsr p (fun i => tpm P (x + i) y) m := ⟨_, rfl⟩
    have hq30 : q.1 ≤ 30 := by rw [hq]; exact fsr_le hp (fun i => tpm_le hW)
    have ei : (nI y * 10) + nI (x + m) = nI (10 * y + (x + m)) := by rw [show (10 : Int32) = nI 10 from rfl, nmul, nadd, Nat.mul_comm]
    have et : (hs u g q).1 (156 + g) (10 * y + (x + m)) = nI (tpm P (x + m) y) := by
      rw [hs_ne (by omega), hT _ (by omega)]
      unfold tpF
      rw [show (10 * y + (x + m)) % 10 = x + m by omega, show (10 * y + (x + m)) / 10 = y by omega]
    have ht : tpm P (x + m) y ≤ 30 := tpm_le hW
    have es : fsr p (fun i => tpm P (x + i) y) (m + 1) = stp q (tpm P (x + m) y) := by rw [hq]; rfl
    simp only [← hq, gX1_holds_60, ei]
    rw [if_neg (by rw [nle (by omega) (by omega)]; omega), gd_t (inb_n (by omega) (by omega)), ncl (by omega), et]
    by_cases hv6 : (tpm P (x + m) y : Int) ≤ h
    · left
      rw [if_pos ((le_int hv (by omega)).mpr hv6), hs_1]
      refine ⟨_, ?_, rfl, fun i hi => ?_⟩
      · rw [es]
        unfold stp
        by_cases h1 : tpm P (x + m) y ≤ q.1
        · rw [if_pos (by rw [nle (by omega) (by omega)]; omega), if_pos h1]
          by_cases h2 : tpm P (x + m) y = q.1
          · rw [if_pos (by rw [h2]), if_pos h2, nm_k, hs_2, show nI q.2 + 1 = nI (q.2 + 1) from nadd _ 1, hs_up2, show nI (x + m) + 1 = nI (x + (m + 1)) from nadd _ 1]
          · rw [if_neg (by rw [neq (by omega) (by omega)]; exact h2), if_neg h2, show nI (x + m) + 1 = nI (x + (m + 1)) from nadd _ 1]
        · rw [if_neg (by rw [nle (by omega) (by omega)]; omega), if_neg h1, nm_k, nm_k, hs_up1, show (1 : Int32) = nI 1 from rfl, hs_up2, nadd]
          rfl
      · by_cases him : i = m
        · subst him
          exact hv6
        · exact hle i (by omega)
    · right
      rw [if_neg (fun q => hv6 ((le_int hv (by omega)).mp q))]
      exact ⟨_, rfl, Or.inr ⟨⟨q, rfl⟩, m, hm, by omega⟩⟩
  · obtain ⟨rfl, hle⟩ := hI
    simp only [gX1_holds_60]
    rw [if_pos (by rw [nle (by omega) (by omega)]; omega)]
    exact ⟨_, rfl, Or.inl ⟨rfl, hle⟩⟩
theorem holds_out {u : S} {g x y a b : Nat} {P : Bx} {v6 : Int32} {h : Int} (hW : WF P) (hT : ∀ k, k < 100 → u.1 (156 + g) k = nI (tpF P k)) (hv : v6.toInt = h) (hx : x + a ≤ 10) (hy : y + b ≤ 10) :
    ∃ r, lp (gX1_holds_50 g (nI x) v6 (nI (x + a)) (nI (y + b))) FU (nI y, hs u g (0, 0)) = some r ∧ ((r = .inr (nI (y + b), hs u g (fs2 (fun j i => tpm P (x + i) (y + j)) a b)) ∧ ∀ j i, j < b → i < a → (tpm P (x + i) (y + j) : Int) ≤ h) ∨ ((∃ p', r = .inl (0, hs u g p')) ∧ ∃ j i, j < b ∧ i < a ∧ h < (tpm P (x + i) (y + j) : Int))) := by
  refine lp_go (fun m st => st = (nI (y + m), hs u g (fs2 (fun j i => tpm P (x + i) (y + j)) a m)) ∧ ∀ j i, j < m → i < a → (tpm P (x + i) (y + j) : Int) ≤ h) _ b ⟨rfl, fun j i hj => absurd hj (by omega)⟩ (by omega) (fun m st hm hI => ?_) (fun st hI => ?_)
  · obtain ⟨rfl, hle⟩ := hI
    simp only [gX1_holds_50]
    rw [if_neg (by rw [nle (by omega) (by omega)]; omega)]
    obtain ⟨r, h1, h2⟩ := holds_in (u := u) (g := g) (y := y + m) hW hT hv hx (by omega) (fs2 (fun j i => tpm P (x + i) (y + j)) a m) (fs2_le (fun j i => tpm_le hW)).1
    rw [h1, Option.bind_some]
    rcases h2 with ⟨rfl, h3⟩ | ⟨⟨p', rfl⟩, i, hi, h3⟩
    · left
      refine ⟨_, rfl, ?_, fun j i hj hi => ?_⟩
      · rw [show nI (y + m) + 1 = nI (y + (m + 1)) from nadd _ 1]
        rfl
      · by_cases hjm : j = m
        · subst hjm
          exact h3 i hi
        · exact hle j i (by omega) hi
    · right
      exact ⟨_, rfl, Or.inr ⟨⟨p', rfl⟩, m, i, hm, hi, h3⟩⟩
  · obtain ⟨rfl, hle⟩ := hI
    simp only [gX1_holds_50]
    rw [if_pos (by rw [nle (by omega) (by omega)]; omega)]
    exact ⟨_, rfl, Or.inl ⟨rfl, hle⟩⟩
/-- whether tray t may lie there with its floor no higher than h -/
def hok (P : Bx) (t x y w : Nat) (h : Int) : Bool := decide (x + axt P t w ≤ P.1 0 ∧ y + ayt P t w ≤ P.1 1) && decide (((flr P t x y w).1 : Int) ≤ h) && decide (P.1 3 * (P.2 t 0 * P.2 t 1) ≤ 100 * (flr P t x y w).2)
theorem area_eq {u : S} {b : Nat} {P : Bx} {i : Nat} (h : CR u b P) (hi : i < P.1 4) : fX5_area (12 * b + i) u = some (nI (P.2 i 0 * P.2 i 1)) := by
  have c := (h.2 i hi).1
  simp only [fX5_area, c 0 (by omega), c 1 (by omega), nmul]
theorem area_le {P : Bx} (hW : WF P) {i : Nat} (hi : i < P.1 4) : 1 ≤ P.2 i 0 * P.2 i 1 ∧ P.2 i 0 * P.2 i 1 ≤ 100 := by
  have := hW.2.2.2.2.2.1 i hi
  unfold WT at this
  exact ⟨Nat.mul_le_mul (show 1 ≤ P.2 i 0 by omega) (show 1 ≤ P.2 i 1 by omega), Nat.mul_le_mul (show P.2 i 0 ≤ 10 by omega) (show P.2 i 1 ≤ 10 by omega)⟩
theorem holds_eq {u : S} {g b t x y w : Nat} {P : Bx} {v6 : Int32} {h : Int} (hW : WF P) (hC : CR u b P) (hb : b < 11) (ht : t < P.1 4) (hw : w ≤ 1) (hT : ∀ k, k < 100 → u.1 (156 + g) k = nI (tpF P k)) (hv : v6.toInt = h) (hx : x < 2147483648) (hy : y < 2147483648) :
    ∃ p', fX1_holds g b (12 * b + t) (nI x) (nI y) (nI w) v6 u = some (b01 (hok P t x y w h), hs u g p') ∧ (hok P t x y w h = true → p' = flr P t x y w) := by
  have hn := hW.2.2.2.2.1
  have w0 := hW.1
  have w1 := hW.2.1
  have w3 := hW.2.2.2.1
  have ha := axt_le hW ht w
  have har := area_le hW ht
  have hcr : ∀ p, CR (hs u g p) b P := fun p => CR_of hn hC (fun j hj => hs_ne (by unfold inB at hj; omega))
  simp only [fX1_holds, nm_k, hs_0, encl_n hW (hcr (0, 0)) ht hw hx hy, Option.bind_some]
  by_cases he : x + axt P t w ≤ P.1 0 ∧ y + ayt P t w ≤ P.1 1
  · rw [if_pos he, if_neg (show ¬ (1 : Int32) = 0 by decide), (along_eq (hcr (0, 0)) ht hw).1, (along_eq (hcr (0, 0)) ht hw).2, Option.bind_some, Option.bind_some, nadd, nadd]
    obtain ⟨r, h1, h2⟩ := holds_out (u := u) (g := g) (x := x) (y := y) (a := axt P t w) (b := ayt P t w) hW hT hv (by omega) (by omega)
    rw [h1, Option.bind_some]
    rcases h2 with ⟨rfl, h3⟩ | ⟨⟨p', rfl⟩, j, i, hj, hi, h3⟩
    · have hfl : (((flr P t x y w).1 : Nat) : Int) ≤ h := by
        obtain ⟨i, j, hi, hj, e⟩ := fs2_at (s := fun j i => tpm P (x + i) (y + j)) (a := axt P t w) (b := ayt P t w) (by omega) (by omega)
        unfold flr
        rw [e]
        exact h3 j i hj hi
      refine ⟨flr P t x y w, ?_, fun _ => rfl⟩
      show ((fX5_area (12 * b + t) (hs u g (flr P t x y w))).bind fun q11 => if 100 * (hs u g (flr P t x y w)).1 (154 + g) 2 < (hs u g (flr P t x y w)).1 (132 + b) 3 * q11 then some ((0 : Int32), hs u g (flr P t x y w)) else some (1, hs u g (flr P t x y w))) = _
      have hr := (flr_le hW ht (x := x) (y := y) (w := w)).2
      have hm : P.1 3 * (P.2 t 0 * P.2 t 1) ≤ 100 * 100 := Nat.mul_le_mul w3 har.2
      rw [area_eq (hcr _) ht, Option.bind_some, hs_2, (hcr (flr P t x y w)).1 3 (by omega), show (100 : Int32) = nI 100 from rfl, nmul, nmul]
      by_cases hs3 : P.1 3 * (P.2 t 0 * P.2 t 1) ≤ 100 * (flr P t x y w).2
      · rw [if_neg (by rw [nlt (by omega) (by omega)]; omega)]
        simp [hok, he, hfl, hs3, b01]
      · rw [if_pos (by rw [nlt (by omega) (by omega)]; omega)]
        simp [hok, hs3, b01]
    · have hfl : ¬ (((flr P t x y w).1 : Nat) : Int) ≤ h := by
        have := le_fs2 (s := fun j i => tpm P (x + i) (y + j)) hi hj
        unfold flr
        omega
      have hk : hok P t x y w h = false := by simp [hok, hfl]
      rw [hk]
      exact ⟨p', rfl, fun q => by cases q⟩
  · have hk : hok P t x y w h = false := by
      unfold hok
      rw [decide_eq_false he]
      rfl
    rw [if_neg he, if_pos rfl, hk]
    exact ⟨(0, 0), rfl, fun q => by cases q⟩
