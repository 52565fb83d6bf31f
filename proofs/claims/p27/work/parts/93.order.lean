/-! the usual order is the law's -/
def Kx (P : Bx) (i : Nat) : Nat := 101 * P.2 i 3 + P.2 i 0 * P.2 i 1
def pre (P : Bx) (a b : Nat) : Prop := Kx P b < Kx P a ∨ (Kx P a = Kx P b ∧ a < b)
def SI (P : Bx) (t j : Nat) (o : Nat → Nat) : Prop := (∀ a b, a < b → b ≤ t → a ≠ j → b ≠ j → pre P (o a) (o b)) ∧ (∀ b, j < b → b ≤ t → Kx P (o b) < Kx P t) ∧ ∀ a, a ≤ t → a ≠ j → o a < t
theorem insA_sorted {P : Bx} {t : Nat} (hbf : ∀ s, s < t → (bfr P t s = true ↔ Kx P s < Kx P t)) : ∀ {j : Nat} {o : Nat → Nat}, j ≤ t → SI P t j o → ∀ a b, a < b → b ≤ t → pre P (insA (bfr P) t j o a) (insA (bfr P) t j o b) := by
  intro j
  induction j with
  | zero =>
    intro o _ ⟨h1, h2, h3⟩ a b hab hb
    simp only [insA]
    by_cases ha : a = 0
    · rw [if_pos ha, if_neg (by omega)]
      exact Or.inl (h2 b (by omega) hb)
    · rw [if_neg ha, if_neg (by omega)]
      exact h1 a b hab hb ha (by omega)
  | succ j ih =>
    intro o hj ⟨h1, h2, h3⟩
    have hoj : o j < t := h3 j (by omega) (by omega)
    simp only [insA]
    by_cases hc : bfr P t (o j) = true
    · have hk := (hbf _ hoj).mp hc
      rw [if_pos hc]
      refine ih (by omega) ⟨fun a b hab hb ha hbj => ?_, fun b hb1 hb2 => ?_, fun a ha haj => ?_⟩
      · show pre P (if a = j + 1 then o j else o a) (if b = j + 1 then o j else o b)
        by_cases e1 : a = j + 1
        · rw [if_pos e1, if_neg (by omega)]
          exact h1 j b (by omega) hb (by omega) (by omega)
        · rw [if_neg e1]
          by_cases e2 : b = j + 1
          · rw [if_pos e2]
            exact h1 a j (by omega) (by omega) e1 (by omega)
          · rw [if_neg e2]
            exact h1 a b hab hb e1 e2
      · show Kx P (if b = j + 1 then o j else o b) < Kx P t
        by_cases e2 : b = j + 1
        · rw [if_pos e2]; exact hk
        · rw [if_neg e2]; exact h2 b (by omega) hb2
      · show (if a = j + 1 then o j else o a) < t
        by_cases e1 : a = j + 1
        · rw [if_pos e1]; exact hoj
        · rw [if_neg e1]; exact h3 a ha e1
    · have hk : ¬ Kx P (o j) < Kx P t := fun q => hc ((hbf _ hoj).mpr q)
      rw [if_neg hc]
      intro a b hab hb
      show pre P (if a = j + 1 then t else o a) (if b = j + 1 then t else o b)
      by_cases e1 : a = j + 1
      · rw [if_pos e1, if_neg (by omega)]
        exact Or.inl (h2 b (by omega) hb)
      · rw [if_neg e1]
        by_cases e2 : b = j + 1
        · rw [if_pos e2]
          have hoa : o a < t := h3 a (by omega) e1
          by_cases e3 : a = j
          · subst e3
            unfold pre
            omega
          · have := h1 a j (by omega) (by omega) e1 (by omega)
            unfold pre at this ⊢
            omega
        · rw [if_neg e2]
          exact h1 a b hab hb e1 e2
theorem usO_sorted {P : Bx} {N : Nat} (hbf : ∀ t s, t < N → s < t → (bfr P t s = true ↔ Kx P s < Kx P t)) : ∀ n, n ≤ N → ∀ a b, a < b → b < n → pre P (usO (bfr P) n a) (usO (bfr P) n b) := by
  intro n
  induction n with
  | zero => intro _ a b _ hb; omega
  | succ n ih =>
    intro hn a b hab hb
    have hPm := usO_Pm (bf := bfr P) n
    exact insA_sorted (P := P) (t := n) (fun s hs => hbf n s (by omega) hs) (Nat.le_refl n) ⟨fun a b hab hb ha hbj => ih (by omega) a b hab (by omega), fun b h1 h2 => by omega, fun a ha haj => hPm.1 a (by omega)⟩ a b hab (by omega)
section C93
variable {P : Bx} {u : S}
theorem bfr_K (hW : WF P) {t s : Nat} (ht : t < P.1 4) (hs : s < P.1 4) : bfr P t s = true ↔ Kx P s < Kx P t := by
  have a1 := area_le hW ht
  have a2 := area_le hW hs
  simp only [bfr, Kx, Bool.or_eq_true, Bool.and_eq_true, decide_eq_true_eq, beq_iff_eq]
  omega
theorem us_sorted (hW : WF P) {a b : Nat} (hab : a < b) (hb : b < P.1 4) : pre P (usO (bfr P) (P.1 4) a) (usO (bfr P) (P.1 4) b) :=
  usO_sorted (fun t s ht hs => bfr_K hW ht (by omega)) (P.1 4) (Nat.le_refl _) a b hab hb
theorem pre_anti {a b : Nat} (h1 : pre P a b) (h2 : pre P b a) : False := by
  unfold pre at h1 h2
  omega
/-- what the law picks -/
def picks (P : Bx) (v : Nat) (t : Nat) (z : Int32) : Prop := (z = -1 ∧ ∀ i, t ≤ i → i < P.1 4 → v.testBit i = true) ∨ ∃ j, z = nI j ∧ t ≤ j ∧ j < P.1 4 ∧ v.testBit j = false ∧ ∀ i, t ≤ i → i < P.1 4 → v.testBit i = false → i ≠ j → pre P j i
theorem pick_in (hW : WF P) (hC : CR u 0 P) {v : Nat} (hv : v < 4096) : ∃ z, lp (gL_packed_121 (nI v) u) FU (-1, nI (P.1 4) - 1) = some (z, -1) ∧ picks P v 0 z := by
  have hn := hW.2.2.2.2.1
  by_cases hn0 : P.1 4 = 0
  · refine ⟨-1, ?_, Or.inl ⟨rfl, fun i _ hi => by omega⟩⟩
    rw [hn0]
    rfl
  have hini : nI (P.1 4) - 1 = nI (P.1 4 - 1) := nsub (b := 1) (by omega)
  have hm1 : ∀ a : Nat, a < 12 → ¬ nI a < 0 := by decide
  obtain ⟨b, h1, h2, h3⟩ := lp_fogL (step := gL_packed_121 (nI v) u) (a := (-1, nI (P.1 4 - 1))) (fun r a => a.2 = (if r = P.1 4 then -1 else nI (P.1 4 - 1 - r)) ∧ picks P v (P.1 4 - r) a.1) (P.1 4) (by omega) (fun r a hr ha => by
    obtain ⟨z, kk⟩ := a
    obtain ⟨e1, e2⟩ := ha
    have e1 : kk = _ := e1
    have e2 : picks P v (P.1 4 - r) z := e2
    rw [if_neg (by omega)] at e1
    subst e1
    obtain ⟨t, ht⟩ : ∃ t, t = P.1 4 - 1 - r := ⟨_, rfl⟩
    rw [← ht]
    have htn : t < P.1 4 := by omega
    rw [show P.1 4 - r = t + 1 by omega] at e2
    have hdec : nI t + (-1) = (if r + 1 = P.1 4 then (-1 : Int32) else nI (P.1 4 - 1 - (r + 1))) := by
      by_cases h0 : r + 1 = P.1 4
      · rw [if_pos h0, show t = 0 by omega]; rfl
      · rw [if_neg h0, show t = (P.1 4 - 1 - (r + 1)) + 1 by omega]
        exact npred _
    rw [show P.1 4 - (r + 1) = t by omega]
    -- sooner
    have hs : ∃ sn : Bool, (if z < 0 then (some 1 : Option Int32) else
        ((fX6_tray (nI t) 3 u).bind fun q224 =>
        (fX6_tray z 3 u).bind fun q225 =>
        (if q225 < q224 then
        (some (1 : Int32))
        else
        ((fX6_tray (nI t) 3 u).bind fun q227 =>
        (fX6_tray z 3 u).bind fun q228 =>
        (if q227 = q228 then
        ((fX6_tray z 0 u).bind fun q230 =>
        (fX6_tray z 1 u).bind fun q231 =>
        (if (nI (P.2 t 0) * nI (P.2 t 1)) < (q230 * q231) then
        (some (0 : Int32))
        else
        (some (1 : Int32))).bind fun j232 =>
        some (j232 : Int32))
        else
        (some (0 : Int32))).bind fun j229 =>
        some (j229 : Int32))).bind fun j226 =>
        some (j226 : Int32))) = some (b01 sn) ∧ (z = -1 → sn = true) ∧ ∀ j, z = nI j → j < P.1 4 → t < j → (sn = true ↔ pre P t j) := by
      rcases e2 with ⟨ez, -⟩ | ⟨j, ez, hj1, hj2, -, -⟩
      · subst ez
        refine ⟨true, by rw [if_pos (by decide)]; rfl, fun _ => rfl, fun j hj hjn _ => ?_⟩
        have : ∀ j, j < 12 → ¬ (-1 : Int32) = nI j := by decide
        exact absurd hj (this j (by omega))
      · subst ez
        have w1 := (hW.2.2.2.2.2.1 t htn).2.2.2.1
        have w2 := (hW.2.2.2.2.2.1 j hj2).2.2.2.1
        have a1 := area_le hW htn
        have a2 := area_le hW hj2
        rw [if_neg (hm1 j (by omega)), c_t3 hW hC htn, Option.bind_some, c_t3 hW hC hj2, Option.bind_some, c_t0 hW hC hj2, c_t1 hW hC hj2]
        have hpre : pre P t j ↔ (P.2 j 3 < P.2 t 3 ∨ (P.2 t 3 = P.2 j 3 ∧ ¬ P.2 t 0 * P.2 t 1 < P.2 j 0 * P.2 j 1)) := by
          unfold pre Kx
          omega
        refine ⟨decide (P.2 j 3 < P.2 t 3 ∨ (P.2 t 3 = P.2 j 3 ∧ ¬ P.2 t 0 * P.2 t 1 < P.2 j 0 * P.2 j 1)), ?_, fun hz => ?_, fun j' hj' hjn' htj' => ?_⟩
        · by_cases g1 : P.2 j 3 < P.2 t 3
          · rw [if_pos (by rw [nlt (by omega) (by omega)]; exact g1), Option.bind_some, decide_eq_true (Or.inl g1)]; rfl
          · rw [if_neg (by rw [nlt (by omega) (by omega)]; exact g1), Option.bind_some, Option.bind_some]
            by_cases g2 : P.2 t 3 = P.2 j 3
            · rw [if_pos (by rw [g2]), Option.bind_some, Option.bind_some, nmul, nmul]
              by_cases g3 : P.2 t 0 * P.2 t 1 < P.2 j 0 * P.2 j 1
              · rw [if_pos (by rw [nlt (by omega) (by omega)]; exact g3), decide_eq_false (by omega)]; rfl
              · rw [if_neg (by rw [nlt (by omega) (by omega)]; exact g3), decide_eq_true (Or.inr ⟨g2, g3⟩)]; rfl
            · rw [if_neg (by rw [neq (by omega) (by omega)]; exact g2), decide_eq_false (by omega)]; rfl
        · have : ∀ j, j < 12 → ¬ nI j = (-1 : Int32) := by decide
          exact absurd hz (this j (by omega))
        · have hjj : j = j' := (neq (by omega) (by omega)).mp hj'
          rw [decide_eq_true_eq, ← hpre, hjj]
    obtain ⟨sn, hs1, hs2, hs3⟩ := hs
    have hbit : (((nI v >>> (nI t &&& 31)) &&& 1) = 0) ↔ v.testBit t = false := by
      exact shr_0 v hv t (by omega)
    refine ⟨(if v.testBit t = false ∧ sn = true then nI t else z, nI t + (-1)), ?_, hdec, ?_⟩
    · simp only [gL_packed_121]
      rw [if_neg (hm1 t (by omega)), c_t0 hW hC htn, Option.bind_some, c_t1 hW hC htn, Option.bind_some, hs1, Option.bind_some]
      by_cases hb : v.testBit t = false
      · rw [if_pos (hbit.mpr hb)]
        cases sn with
        | true => rw [if_neg (show ¬ b01 true = 0 by decide), if_pos ⟨hb, rfl⟩]; rfl
        | false => rw [if_pos (show b01 false = 0 from rfl), if_neg (by simp)]; rfl
      · rw [if_neg (fun q => hb (hbit.mp q)), if_neg (fun q => hb q.1)]; rfl
    · show picks P v t (if v.testBit t = false ∧ sn = true then nI t else z)
      by_cases hcase : v.testBit t = false ∧ sn = true
      · rw [if_pos hcase]
        refine Or.inr ⟨t, rfl, Nat.le_refl t, htn, hcase.1, fun i hi1 hi2 hi3 hne => ?_⟩
        rcases e2 with ⟨-, e⟩ | ⟨j, ez, hj1, hj2, hj3, hj4⟩
        · have := e i (by omega) hi2
          rw [hi3] at this
          cases this
        · have hpj := (hs3 j ez hj2 (by omega)).mp hcase.2
          by_cases hij : i = j
          · exact hij ▸ hpj
          · have := hj4 i (by omega) hi2 hi3 hij
            unfold pre at this hpj ⊢
            omega
      · rw [if_neg hcase]
        rcases e2 with ⟨ez, e⟩ | ⟨j, ez, hj1, hj2, hj3, hj4⟩
        · refine Or.inl ⟨ez, fun i hi1 hi2 => ?_⟩
          by_cases hit : i = t
          · subst hit
            cases hb : v.testBit i with
            | true => rfl
            | false => exact absurd ⟨hb, hs2 ez⟩ hcase
          · exact e i (by omega) hi2
        · refine Or.inr ⟨j, ez, by omega, hj2, hj3, fun i hi1 hi2 hi3 hne => ?_⟩
          by_cases hit : i = t
          · subst hit
            have hns : ¬ pre P i j := fun q => hcase ⟨hi3, (hs3 j ez hj2 (by omega)).mpr q⟩
            unfold pre at hns ⊢
            omega
          · exact hj4 i (by omega) hi2 hi3 hne) (fun a ha => by
    obtain ⟨z, kk⟩ := a
    have e1 : kk = (if P.1 4 = P.1 4 then -1 else nI (P.1 4 - 1 - P.1 4)) := ha.1
    rw [if_pos rfl] at e1
    subst e1
    simp only [gL_packed_121]
    rw [if_pos (by decide)]) ⟨by rw [if_neg (by omega)]; rfl, Or.inl ⟨rfl, fun i h1 h2 => by omega⟩⟩
  obtain ⟨z, kk⟩ := b
  have h2 : kk = (if P.1 4 = P.1 4 then -1 else nI (P.1 4 - 1 - P.1 4)) := h2
  rw [if_pos rfl] at h2
  subst h2
  rw [Nat.sub_self] at h3
  exact ⟨z, by rw [hini]; exact h1, h3⟩
/-- the law's next is the usual order's -/
theorem pick_us (hW : WF P) (hC : CR u 0 P) {v k : Nat} (hv : v < 4096) (hk : k < P.1 4) (hb : ∀ i, v.testBit i = true ↔ ∃ l, l < k ∧ usO (bfr P) (P.1 4) l = i) : lp (gL_packed_121 (nI v) u) FU (-1, nI (P.1 4) - 1) = some (nI (usO (bfr P) (P.1 4) k), -1) := by
  obtain ⟨z, h1, h2⟩ := pick_in hW hC hv
  have hPm := usO_Pm (bf := bfr P) (P.1 4)
  have hun : v.testBit (usO (bfr P) (P.1 4) k) = false := by
    cases hb2 : v.testBit (usO (bfr P) (P.1 4) k) with
    | false => rfl
    | true =>
      obtain ⟨l, hl, he⟩ := (hb _).mp hb2
      have := hPm.2.1 l k (by omega) hk he
      omega
  have hus := hPm.1 k hk
  rw [h1]
  rcases h2 with ⟨-, e⟩ | ⟨j, ez, hj1, hj2, hj3, hj4⟩
  · have := e _ (Nat.zero_le _) hus
    rw [hun] at this
    cases this
  · have hj : j = usO (bfr P) (P.1 4) k := by
      by_cases hjk : j = usO (bfr P) (P.1 4) k
      · exact hjk
      · have p1 := hj4 _ (Nat.zero_le _) hus hun (fun q => hjk q.symm)
        obtain ⟨l, hl, he⟩ := hPm.2.2 j hj2
        have hlk : k < l := by
          by_cases hlt : l < k
          · have := (hb j).mpr ⟨l, hlt, he⟩
            rw [hj3] at this
            cases this
          · have : l ≠ k := fun q => hjk (by rw [← he, q])
            omega
        have p2 := us_sorted hW hlk hl
        rw [he] at p2
        exact absurd p2 (fun q => pre_anti q p1)
    rw [ez, hj]
end C93
