/-! the law's packed -/
theorem NX_pt (M : Nat) (u q : S) : NX u (ptS 168 M u q) := fun j hj => by
  unfold scrC at hj
  funext k
  simp only [ptS]
  rw [if_neg (by omega)]
theorem NX_shpt {M : Nat} (hM : 168 ≤ M) (u q : S) : NX q (shS 168 (ptS 168 M u q)) := fun j hj => by
  unfold scrC at hj
  funext k
  simp only [shS, ptS]
  rw [if_pos (by omega), Nat.add_sub_cancel_left]
theorem NX_shmg (u q : S) : NX (shS 168 u) (shS 168 (mgS 168 u q)) := fun j hj => by
  funext k
  simp only [shS, mgS]
  rw [if_neg (by omega)]
theorem NX_qmg (u q : S) : NX q (mgS 168 u q) := fun j hj => by
  unfold scrC at hj
  funext k
  simp only [mgS]
  rw [if_pos (by omega)]
theorem NX_zr6 (u : S) : NX u (zrS 336 u) := fun j hj => by
  unfold scrC at hj
  funext k
  simp only [zrS]
  rw [if_neg (by omega)]
theorem NX_shzr (u : S) : NX (shS 168 u) (shS 168 (zrS 336 u)) := fun j hj => by
  unfold scrC at hj
  funext k
  simp only [shS, zrS]
  rw [if_neg (by omega)]
theorem NX_ni (u : S) : NX u (niS u) := fun j hj => by
  unfold scrC at hj
  funext k
  simp only [niS]
  rw [if_neg (by omega)]
theorem NX_sni (u : S) : NX u0 (shS 168 (niS u)) := fun j hj => by
  unfold scrC at hj
  funext k
  simp only [shS, niS]
  rw [if_pos (by omega), Nat.add_sub_cancel_left]
section C95
variable {P : Bx} {u : S}
theorem best_fits {t : Nat} {d : Nat × Nat × Nat × (Nat × Nat)} (h : best P t = some d) : fits P t d.1 d.2.1 d.2.2.1 = true := by
  have key : (fun c : Cd => ∀ d, c = some d → fits P t d.1 d.2.1 d.2.2.1 = true) (best P t) := fo_inv (fun c : Cd => ∀ d, c = some d → fits P t d.1 d.2.1 d.2.2.1 = true) (fun s y hy hs => fo_inv (fun c : Cd => ∀ d, c = some d → fits P t d.1 d.2.1 d.2.2.1 = true) (fun s x hx hs => fo_inv (fun c : Cd => ∀ d, c = some d → fits P t d.1 d.2.1 d.2.2.1 = true) (fun s w hw hs => ?_) hs) hs) (fun d hd => by cases hd)
  · exact key d h
  · intro d hd
    unfold st1 at hd
    by_cases hq : (fits P t x y w && lower (flr P t x y w).1 s) = true
    · rw [if_pos hq] at hd
      cases hd
      simp only [Bool.and_eq_true] at hq
      exact hq.1
    · rw [if_neg hq] at hd
      exact hs d hd
theorem inC_plc {t x y w : Nat} (ht : t < P.1 4) (h5 : P.2 t 5 = 0) : inC (plc P t x y w) = inC P + 1 := by
  have h := fb_ct_upd (fun i => P.2 i 5 == 1) true ht
  have e : inC (plc P t x y w) = fb_ct (fun k => if k = t then true else P.2 k 5 == 1) (P.1 4) := fb_ct_cong (fun k _ => by
    by_cases hk : k = t
    · subst hk
      rw [plc_5, if_pos rfl]; rfl
    · rw [plc_o hk, if_neg hk])
  rw [e]
  simp only [h5] at h
  simpa [inC] using h
def Te (P : Bx) (t : Nat) : Nat → Nat → Nat := fun i k => if i = t ∧ k = 4 then 0 else (emp P).2 i k
theorem te_k {t i k : Nat} (h : k ≠ 4) : Te P t i k = (emp P).2 i k := if_neg (by omega)
theorem emp_k {i k : Nat} (h : k < 5) : (emp P).2 i k = P.2 i k := by
  show (if 5 ≤ k then 0 else P.2 i k) = _
  rw [if_neg (by omega)]
theorem FO_emp (hW : WF P) {n : Nat} (hn : n ≤ P.1 4) : FO P.1 (emp P).2 n := by
  obtain ⟨h0, h1, h2, h3, h4, h5, -⟩ := hW
  refine ⟨h0, h1, h2, h3, by omega, fun i k hk => if_pos hk, fun i hi => ?_⟩
  have := h5 i (by omega)
  exact ⟨this.1, this.2.1, this.2.2.1, this.2.2.2.1, this.2.2.2.2.1⟩
theorem FO_Te (hW : WF P) {n t : Nat} (hn : n ≤ P.1 4) : FO P.1 (Te P t) n := by
  obtain ⟨h0, h1, h2, h3, h4, h5, h6⟩ := FO_emp hW hn
  refine ⟨h0, h1, h2, h3, h4, fun i k hk => ?_, fun i hi => ?_⟩
  · unfold Te
    rw [if_neg (by omega)]
    exact h5 i k hk
  · obtain ⟨a0, a1, a2, a3, a4⟩ := h6 i hi
    refine ⟨by rw [te_k (by omega)]; exact a0, by rw [te_k (by omega)]; exact a1, by rw [te_k (by omega)]; exact a2, by rw [te_k (by omega)]; exact a3, ?_⟩
    show (if i = t ∧ 4 = 4 then 0 else (emp P).2 i 4) ≤ 1
    split
    · omega
    · exact a4
theorem by_adds (hW : WF P) (hC : CR u 0 P) {w0 : S} (hN : NX u w0) (hR : RX (Fx P.1 (emp P).2 0) (shS 168 w0)) :
    ∃ b, lp (gL_packed_46 (nI (P.1 4))) FU (0, w0) = some b ∧ NX u b.2 ∧ RX (emp P) (shS 168 b.2) := by
  have hn := hW.2.2.2.2.1
  obtain ⟨b, h1, h2, h3, h4⟩ := lp_fogL (step := gL_packed_46 (nI (P.1 4))) (a := (0, w0)) (fun t a => a.1 = nI t ∧ NX u a.2 ∧ RX (Fx P.1 (emp P).2 t) (shS 168 a.2)) (P.1 4) (by omega) (fun t a ht ha => by
    obtain ⟨kk, w⟩ := a
    obtain ⟨e1, e2, e3⟩ := ha
    have e1 : kk = nI t := e1
    have e2 : NX u w := e2
    have e3 : RX (Fx P.1 (emp P).2 t) (shS 168 w) := e3
    subst e1
    have hCw := e2.CR (b := 0) (by omega) hn hC
    obtain ⟨q, a1, R1⟩ := f_add (T' := Te P t) (FO_emp hW (by omega)) e3 (by omega) (FO_Te hW (by omega)) (fun i k hi _ => if_neg (by omega)) (if_pos ⟨rfl, rfl⟩)
    rw [te_k (by omega), te_k (by omega), te_k (by omega), te_k (by omega), emp_k (by omega), emp_k (by omega), emp_k (by omega), emp_k (by omega)] at a1
    have a1 : fX6_add (nI (P.2 t 0)) (nI (P.2 t 1)) (nI (P.2 t 2)) (nI (P.2 t 3)) (shS 168 w) = some (nI t, q) := a1
    have n1 : NX u (ptS 168 168 w q) := e2.trans (NX_pt 168 w q)
    have R1' := (NX_shpt (Nat.le_refl 168) w q).RX R1
    obtain ⟨q2, a2, R2⟩ := f_setTray (FO_Te hW (by omega)) R1' (t := t) (by omega) (T' := (emp P).2) (FO_emp hW (by omega)) (fun i k _ _ hz => (if_neg hz).symm)
    have t4 : Te P t t 4 = 0 := if_pos ⟨rfl, rfl⟩
    have t44 : (emp P).2 t 4 = P.2 t 4 := emp_k (by omega)
    rw [t4, t44] at a2
    refine ⟨(nI (t + 1), ptS 168 168 (ptS 168 168 w q) q2), ?_, rfl, n1.trans (NX_pt 168 _ q2), (NX_shpt (Nat.le_refl 168) _ q2).RX R2⟩
    simp only [gL_packed_46]
    rw [if_neg (by rw [nle (by omega) (by omega)]; omega), c_t0 hW hCw ht, Option.bind_some, c_t1 hW hCw ht, Option.bind_some, c_t2 hW hCw ht, Option.bind_some, c_t3 hW hCw ht, Option.bind_some, a1, Option.bind_some, nm_k, c_t4 hW (n1.CR (b := 0) (by omega) hn hC) ht, Option.bind_some, a2, Option.bind_some, nm_k, show nI t + 1 = nI (t + 1) from nadd t 1]) (fun a ha => by
    obtain ⟨kk, w⟩ := a
    have e1 : kk = nI (P.1 4) := ha.1
    subst e1
    simp only [gL_packed_46]
    rw [if_pos (by rw [nle (by omega) (by omega)]; omega)]) ⟨rfl, hN, hR⟩
  refine ⟨b, h1, h3, ?_⟩
  have e : Fx P.1 (emp P).2 (P.1 4) = emp P := by
    apply Prod.ext
    · funext k
      show (if k = 4 then P.1 4 else P.1 k) = P.1 k
      split
      · rename_i h; rw [h]
      · rfl
    · rfl
  rw [e] at h4
  exact h4
/-- the rounds of packing, tray by tray -/
theorem by_packs (hR : RX P u) {w0 : S} (hN : NX u w0) (hB : RX (emp P) (shS 168 w0)) :
    ∃ b, lp (gL_packed_107 (nI (P.1 4))) FU (0, 0, 0, w0) = some (.inr b) ∧ b.2.1 = fig (Qk P (P.1 4)) 0 ∧ NX u b.2.2.2 ∧ RX (Qk P (P.1 4)) (shS 168 b.2.2.2) := by
  obtain ⟨hW, hC, hz, hH⟩ := id hR
  have hn := hW.2.2.2.2.1
  obtain ⟨b, h1, h2, h3, ⟨out, h4, h4'⟩, h5, h6⟩ := lp_fogR (step := gL_packed_107 (nI (P.1 4))) (a := (0, 0, 0, w0)) (fun k a => a.2.2.1 = nI k ∧ (∃ v, v < 4096 ∧ a.1 = nI v ∧ ∀ i, v.testBit i = true ↔ ∃ l, l < k ∧ us P l = i) ∧ (∃ out, a.2.1 = nI out ∧ out + inC (Qk P k) = k) ∧ NX u a.2.2.2 ∧ RX (Qk P k) (shS 168 a.2.2.2)) (P.1 4) (by omega) (fun k a hk ha => by
    obtain ⟨z, zo, kk, w⟩ := a
    obtain ⟨e1, ⟨v, hv, e2, e3⟩, ⟨out, e4, e5⟩, e6, e7⟩ := ha
    have e1 : kk = nI k := e1
    have e2 : z = nI v := e2
    have e4 : zo = nI out := e4
    have e6 : NX u w := e6
    have e7 : RX (Qk P k) (shS 168 w) := e7
    subst e1; subst e2; subst e4
    have hCw := e6.CR (b := 0) (by omega) hn hC
    have husn := (us_Pm (P := P)).1 k hk
    obtain ⟨q1, q2, q3, q4⟩ := Qk_ok hW (m := k) (by omega)
    have h5 := (q4 k (Nat.le_refl k) hk).1
    have htn : us P k < (Qk P k).1 4 := by rw [q2]; exact husn
    have hpick := pick_us hW hCw hv hk e3
    obtain ⟨q, p1, p2⟩ := c_ifPackedK hW hCw (k := k) (by omega)
    rw [if_pos hk] at p1
    obtain ⟨u1, hu1⟩ : ∃ u1, u1 = mgS 168 w q := ⟨_, rfl⟩
    have n1 : NX u u1 := hu1 ▸ e6.trans (NX_mg p2)
    have R1 : RX (Qk P k) (shS 168 u1) := hu1 ▸ (NX_shmg w q).RX e7
    obtain ⟨u2, hu2⟩ : ∃ u2, u2 = zrS 336 u1 := ⟨_, rfl⟩
    have n2 : NX u u2 := hu2 ▸ n1.trans (NX_zr6 u1)
    have R2 : RX (Qk P k) (shS 168 u2) := hu2 ▸ (NX_shzr u1).RX R1
    have z2 : (shS 168 u2).1 168 0 = 0 := by rw [hu2]; simp [shS, zrS]
    obtain ⟨b1, b2⟩ := c_best R2.1 R2.2.1 htn z2
    obtain ⟨q5, hq5⟩ : ∃ q5, q5 = up (shS 168 u2) 168 0 (nI (cnt (Qk P k) (us P k))) := ⟨_, rfl⟩
    rw [← hq5] at b1
    have Rq : RX (Qk P k) q5 := hq5 ▸ (NX_up (shS 168 u2) _).RX R2
    obtain ⟨u3, hu3⟩ : ∃ u3, u3 = ptS 168 169 u2 q5 := ⟨_, rfl⟩
    have n3 : NX u u3 := hu3 ▸ n2.trans (NX_pt 169 u2 q5)
    have R3 : RX (Qk P k) (shS 168 u3) := hu3 ▸ (NX_shpt (by omega) u2 q5).RX Rq
    have hset : nI v ||| ((1 : Int32) <<< (nI (us P k) &&& 31)) = nI (v ||| 2 ^ us P k) := bset (by omega)
    have hbits : ∀ i, (v ||| 2 ^ us P k).testBit i = true ↔ ∃ l, l < k + 1 ∧ us P l = i := fun i => by
      rw [fb_bit_set, Bool.or_eq_true, decide_eq_true_eq, e3 i]
      constructor
      · rintro (⟨l, hl, he⟩ | he)
        · exact ⟨l, by omega, he⟩
        · exact ⟨k, by omega, he.symm⟩
      · rintro ⟨l, hl, he⟩
        by_cases hlk : l = k
        · exact Or.inr (by rw [← he, hlk])
        · exact Or.inl ⟨l, by omega, he⟩
    have hstart : gL_packed_107 (nI (P.1 4)) (nI v, nI out, nI k, w) = ((if (0 : Int32) ≤ bN (Qk P k) (us P k) (best (Qk P k) (us P k)) then (some (0 : Int32)) else (some (1 : Int32))).bind fun j141 =>
        if bN (Qk P k) (us P k) (best (Qk P k) (us P k)) < 0 then
        (some (.inr (nI v ||| (1 <<< (nI (us P k) &&& 31)), nI out + j141, nI k + 1, u3)))
        else
        ((if (bN (Qk P k) (us P k) (best (Qk P k) (us P k)) % 10) = 1 then
        (some (1 : Int32))
        else
        (some (0 : Int32))).bind fun j142 =>
        (fX6_letDown (nI (us P k)) ((bN (Qk P k) (us P k) (best (Qk P k) (us P k)) / 10) % 10) ((bN (Qk P k) (us P k) (best (Qk P k) (us P k)) / 100) % 10) j142 (shS 168 u3)).bind fun q143 =>
        nm (ptS 168 168 u3 q143.2) fun u144 =>
        if 0 ≤ q143.1 then
        (some (.inr (nI v ||| (1 <<< (nI (us P k) &&& 31)), nI out + j141, nI k + 1, u144)))
        else
        (some (.inl (.inl (0, u144)))))) := by
      simp only [gL_packed_107]
      rw [if_neg (by rw [nle (by omega) (by omega)]; omega), hpick, Option.bind_some, show (10 : Int32) + nI k = nI (10 + k) from nadd 10 k, p1, Option.bind_some, nm_k, if_pos (show nI (us P k) = nI (usO (bfr P) (P.1 4) k) from rfl), nm_k, ← hu1, ← hu2, show fL_best (nI (usO (bfr P) (P.1 4) k)) (shS 168 u2) = _ from b1, Option.bind_some, nm_k, ← hu3]
      rfl
    rw [hstart]
    rcases hb : best (Qk P k) (us P k) with _ | d
    · have hQ : Qk P (k + 1) = Qk P k := by
        rw [Qk_succ]
        unfold pk
        rw [hb]
      rw [show bN (Qk P k) (us P k) none = -1 from rfl, if_neg (by decide), Option.bind_some, if_pos (by decide), hset, show nI out + 1 = nI (out + 1) from nadd out 1, show nI k + 1 = nI (k + 1) from nadd k 1]
      exact ⟨_, rfl, rfl, ⟨_, or_lt hv (pow_lt (by omega)), rfl, hbits⟩, ⟨out + 1, rfl, by rw [hQ]; omega⟩, n3, by rw [hQ]; exact R3⟩
    · obtain ⟨d1, d2, d3, d4⟩ := b2 d hb
      have hfit := best_fits hb
      obtain ⟨hrm, -, -, -⟩ := best_ok hb
      have htl := tl_le q1 htn
      have hN : bN (Qk P k) (us P k) (some d) = nI (1000 * (d.2.2.2.1 + tl (Qk P k) (us P k)) + 100 * d.2.1 + 10 * d.1 + d.2.2.1) := rfl
      have g0 : bN (Qk P k) (us P k) (some d) / 10 % 10 = nI d.1 := by
        rw [hN, show (10 : Int32) = nI 10 from rfl, ndiv (by omega) (by omega), nmod (by omega) (by omega)]
        congr 1; omega
      have g1 : bN (Qk P k) (us P k) (some d) / 100 % 10 = nI d.2.1 := by
        rw [hN, show (10 : Int32) = nI 10 from rfl, show (100 : Int32) = nI 100 from rfl, ndiv (by omega) (by omega), nmod (by omega) (by omega)]
        congr 1; omega
      have g2 : bN (Qk P k) (us P k) (some d) % 10 = nI d.2.2.1 := by
        rw [hN, show (10 : Int32) = nI 10 from rfl, nmod (by omega) (by omega)]
        congr 1; omega
      have g3 : (0 : Int32) ≤ bN (Qk P k) (us P k) (some d) := by rw [hN, show (0 : Int32) = nI 0 from rfl, nle (by omega) (by omega)]; omega
      have g4 : ¬ bN (Qk P k) (us P k) (some d) < 0 := by rw [hN, show (0 : Int32) = nI 0 from rfl, nlt (by omega) (by omega)]; omega
      obtain ⟨q6, l1, l2⟩ := (c_letDown (x := d.1) (y := d.2.1) (w := d.2.2.1) R3 htn d3 (by omega) (by omega)).2.2.2 hrm h5 hfit
      have hfl := flr_le q1 (x := d.1) (y := d.2.1) (w := d.2.2.1) htn
      have hQ : Qk P (k + 1) = plc (Qk P k) (us P k) d.1 d.2.1 d.2.2.1 := by
        rw [Qk_succ]
        unfold pk
        rw [hb]
      rw [g0, g1, g2, if_pos g3, Option.bind_some, if_neg g4, is01 d3, Option.bind_some, l1, Option.bind_some, nm_k, if_pos (show (0 : Int32) ≤ nI _ from (by rw [show (0 : Int32) = nI 0 from rfl, nle (by omega) (by omega)]; omega)), hset, show nI out + 0 = nI (out + 0) from nadd out 0, show nI k + 1 = nI (k + 1) from nadd k 1]
      exact ⟨_, rfl, rfl, ⟨_, or_lt hv (pow_lt (by omega)), rfl, hbits⟩, ⟨out + 0, rfl, by rw [hQ, inC_plc htn h5]; omega⟩, n3.trans (NX_pt 168 u3 q6), by rw [hQ]; exact (NX_shpt (Nat.le_refl 168) u3 q6).RX l2⟩) (fun a ha => by
    obtain ⟨z, zo, kk, w⟩ := a
    have e1 : kk = nI (P.1 4) := ha.1
    subst e1
    simp only [gL_packed_107]
    rw [if_pos (by rw [nle (by omega) (by omega)]; omega)]) ⟨rfl, ⟨0, by omega, rfl, fun i => by rw [Nat.zero_testBit]; simp⟩, ⟨0, rfl, by
      have : inC (Qk P 0) = 0 := ct_false (fun i _ => by
        show ((emp P).2 i 5 == 1) = false
        simp [emp])
      omega⟩, hN, hB⟩
  refine ⟨b, h1, ?_, h5, h6⟩
  obtain ⟨q1, q2, q3, q4⟩ := Qk_ok hW (Nat.le_refl (P.1 4))
  have hle : inC (Qk P (P.1 4)) ≤ P.1 4 := by omega
  rw [h4]
  show nI out = fig (Qk P (P.1 4)) 0
  rw [fig, if_pos rfl, q2, nsub hle]
  congr 1
  omega
end C95
