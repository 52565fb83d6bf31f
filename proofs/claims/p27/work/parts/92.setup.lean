/-! the law's setUp -/
theorem cell_n (L : Nat) (xs : Nat → Int32) (u : S) (hL : L ≤ 260) {k : Nat} (hk : k < 1000) : ∃ v, fL_cell L xs (nI k) u = some v := by
  simp only [fL_cell]
  by_cases h : L ≤ k
  · rw [if_pos (show Int32.ofNat L ≤ nI k from (by rw [show Int32.ofNat L = nI L from rfl, nle (by omega) (by omega)]; exact h))]
    exact ⟨_, rfl⟩
  · rw [if_neg (show ¬ Int32.ofNat L ≤ nI k from (by rw [show Int32.ofNat L = nI L from rfl, nle (by omega) (by omega)]; exact h)), gd_t (inb_n (by omega) (by omega))]
    exact ⟨_, rfl⟩
def D0 : Nat → Nat := fun k => if k = 0 then 6 else if k = 1 then 6 else if k = 2 then 12 else if k = 3 then 50 else 0
theorem FO_0 : FO D0 (fun _ _ => 0) 0 := ⟨by decide, by decide, by decide, by decide, by omega, fun _ _ _ => rfl, fun i hi => absurd hi (by omega)⟩
theorem RX_0 : RX (Fx D0 (fun _ _ => 0) 0) u0 := FO_0.rx ⟨by decide, fun i k hi => absurd hi (by omega)⟩ ⟨0, 0, by omega, by omega, rfl, rfl⟩
section C92
variable {u : S}
theorem add_T {D : Nat → Nat} {T : Nat → Nat → Nat} {n : Nat} (hO : FO D T n) (hn : n < 12) {a b c d e : Nat} (ha : 1 ≤ a ∧ a ≤ 10) (hb : 1 ≤ b ∧ b ≤ 10) (hc : 1 ≤ c ∧ c ≤ 9) (hd : d ≤ 9) (he : e ≤ 1) :
    FO D (fun i k => if i = n then (if k = 0 then a else if k = 1 then b else if k = 2 then c else if k = 3 then d else if k = 4 then e else 0) else T i k) (n + 1) := by
  obtain ⟨h0, h1, h2, h3, h4, h5, h6⟩ := hO
  refine ⟨h0, h1, h2, h3, by omega, fun i k hk => ?_, fun i hi => ?_⟩
  · by_cases hin : i = n
    · simp only [hin, if_true]
      rw [if_neg (by omega), if_neg (by omega), if_neg (by omega), if_neg (by omega), if_neg (by omega)]
    · simp only [hin, if_false]
      exact h5 i k hk
  · by_cases hin : i = n
    · simp only [hin, if_true]
      exact ⟨ha, hb, hc, hd, he⟩
    · simp only [hin, if_false]
      exact h6 i (by omega)
theorem c_setUp {L : Nat} {xs : Nat → Int32} (hL : L ≤ 260) {n : Nat} (h1 : 1 ≤ n) (h7 : n ≤ 7) (hR : RX (Fx D0 (fun _ _ => 0) 0) u) :
    ∃ u' D T, fL_setUp L xs 1 (nI n) u = some (1, u') ∧ FO D T n ∧ RX (Fx D T n) u' := by
  obtain ⟨g, eg⟩ := cell_n L xs u hL (k := 1) (by omega)
  obtain ⟨a, ha, ea⟩ := low_n u g (n := 4) (by omega) (by omega)
  obtain ⟨b, hb, eb⟩ := low_n u (g >>> (3 &&& 31)) (n := 4) (by omega) (by omega)
  obtain ⟨c, hc, ec⟩ := low_n u (g >>> (6 &&& 31)) (n := 14) (by omega) (by omega)
  obtain ⟨u1, s1, O1, R1⟩ := f_setBox FO_0 hR (x := 2 + a) (y := 2 + b) (z := 3 + c) (by omega) (by omega) (by omega)
  obtain ⟨D1, hD1⟩ : ∃ D1 : Nat → Nat, D1 = (fun k => if k = 0 then 2 + a else if k = 1 then 2 + b else if k = 2 then 3 + c else D0 k) := ⟨_, rfl⟩
  rw [← hD1] at O1 R1
  have h50 : D1 3 = 50 := by rw [hD1]; rfl
  obtain ⟨d, hd, ed⟩ := low_n u1 (g >>> (11 &&& 31)) (n := 3) (by omega) (by omega)
  obtain ⟨s, hs, es⟩ : ∃ s, s ≤ 100 ∧ (if nI d = 0 then ((fL_low (g >>> (13 &&& 31)) 101 u1).bind fun q9 => some (q9 : Int32)) else some 20) = some (nI s) := by
    obtain ⟨e, he, ee⟩ := low_n u1 (g >>> (13 &&& 31)) (n := 101) (by omega) (by omega)
    by_cases h0 : nI d = 0
    · exact ⟨e, by omega, by rw [if_pos h0, show (101 : Int32) = nI 101 from rfl, ee]; rfl⟩
    · exact ⟨20, by omega, by rw [if_neg h0]; rfl⟩
  obtain ⟨u2, s2, O2, R2⟩ := f_setShare O1 R1 hs
  obtain ⟨D2, hD2⟩ : ∃ D2 : Nat → Nat, D2 = (fun k => if k = 3 then s else D1 k) := ⟨_, rfl⟩
  rw [← hD2] at O2 R2
  have hlp : ∃ bb, lp (gL_setUp_90 L xs 1 (nI n)) FU (1, 0, u2) = some bb ∧ bb.2.1 = nI n ∧ bb.1 = 1 ∧ ∃ T, FO D2 T n ∧ RX (Fx D2 T n) bb.2.2 := by
    refine lp_fogL (step := gL_setUp_90 L xs 1 (nI n)) (a := (1, 0, u2)) (fun t a => a.2.1 = nI t ∧ a.1 = 1 ∧ ∃ T, FO D2 T t ∧ RX (Fx D2 T t) a.2.2) n (by omega) (fun t a ht ha => ?_) (fun a ha => ?_) ⟨rfl, rfl, _, O2, R2⟩
    · obtain ⟨v, kk, w⟩ := a
      obtain ⟨e1, e2, T, O, R⟩ := ha
      have e1 : kk = nI t := e1
      have e2 : v = 1 := e2
      have R : RX (Fx D2 T t) w := R
      subst e1; subst e2
      obtain ⟨h, eh⟩ := cell_n L xs w hL (k := 2 + t) (by omega)
      obtain ⟨p0, l0, k0⟩ := low_n w h (n := 4) (by omega) (by omega)
      obtain ⟨p1, l1, k1⟩ := low_n w (h >>> (3 &&& 31)) (n := 4) (by omega) (by omega)
      obtain ⟨p2, l2, k2⟩ := low_n w (h >>> (6 &&& 31)) (n := 3) (by omega) (by omega)
      obtain ⟨p3, l3, k3⟩ := low_n w (h >>> (9 &&& 31)) (n := 10) (by omega) (by omega)
      have OA := add_T (e := 0) O (by omega) (show 1 ≤ 1 + p0 ∧ 1 + p0 ≤ 10 by omega) (show 1 ≤ 1 + p1 ∧ 1 + p1 ≤ 10 by omega) (show 1 ≤ 1 + p2 ∧ 1 + p2 ≤ 9 by omega) (show p3 ≤ 9 by omega) (by omega)
      obtain ⟨T1, hT1⟩ : ∃ T1 : Nat → Nat → Nat, T1 = (fun i k => if i = t then (if k = 0 then 1 + p0 else if k = 1 then 1 + p1 else if k = 2 then 1 + p2 else if k = 3 then p3 else if k = 4 then 0 else 0) else T i k) := ⟨_, rfl⟩
      rw [← hT1] at OA
      obtain ⟨w1, a1, RA⟩ := f_add O R (by omega) OA (fun i k hi _ => by rw [hT1]; simp only [show i ≠ t by omega, if_false]) (by rw [hT1]; simp)
      have t0 : T1 t 0 = 1 + p0 := by rw [hT1]; simp
      have t1 : T1 t 1 = 1 + p1 := by rw [hT1]; simp
      have t2 : T1 t 2 = 1 + p2 := by rw [hT1]; simp
      have t3 : T1 t 3 = p3 := by rw [hT1]; simp
      have t4 : T1 t 4 = 0 := by rw [hT1]; simp
      obtain ⟨p4, l4, k4⟩ := low_n w1 (h >>> (14 &&& 31)) (n := 4) (by omega) (by omega)
      obtain ⟨lid, hlid, elid⟩ := is0w p4
      have OB := add_T (e := lid) O (by omega) (show 1 ≤ 1 + p0 ∧ 1 + p0 ≤ 10 by omega) (show 1 ≤ 1 + p1 ∧ 1 + p1 ≤ 10 by omega) (show 1 ≤ 1 + p2 ∧ 1 + p2 ≤ 9 by omega) (show p3 ≤ 9 by omega) hlid
      obtain ⟨T2, hT2⟩ : ∃ T2 : Nat → Nat → Nat, T2 = (fun i k => if i = t then (if k = 0 then 1 + p0 else if k = 1 then 1 + p1 else if k = 2 then 1 + p2 else if k = 3 then p3 else if k = 4 then lid else 0) else T i k) := ⟨_, rfl⟩
      rw [← hT2] at OB
      have t24 : T2 t 4 = lid := by rw [hT2]; simp
      obtain ⟨w2, a2, RB⟩ := f_setTray OA RA (t := t) (by omega) OB (fun i k hi hk hz => by
        rw [hT1, hT2]
        by_cases hit : i = t
        · have hk4 : k ≠ 4 := fun q => hz ⟨hit, q⟩
          simp [hit, hk4]
        · simp only [hit, if_false])
      rw [t0, t1, t2, t3] at a1
      rw [t24, t4] at a2
      refine ⟨(1, nI (t + 1), w2), ?_, rfl, rfl, T2, OB, RB⟩
      simp only [gL_setUp_90]
      rw [if_neg (by rw [nle (by omega) (by omega)]; omega), if_neg (show ¬ (1 : Int32) = 0 by decide), show (1 : Int32) + 1 + nI t = nI (2 + t) from nadd 2 t, eh, Option.bind_some, show (4 : Int32) = nI 4 from rfl, k0, Option.bind_some, k1, Option.bind_some, show (3 : Int32) = nI 3 from rfl, k2, Option.bind_some, show (10 : Int32) = nI 10 from rfl, k3, Option.bind_some, show (1 : Int32) + nI p0 = nI (1 + p0) from nadd 1 p0, show (1 : Int32) + nI p1 = nI (1 + p1) from nadd 1 p1, show (1 : Int32) + nI p2 = nI (1 + p2) from nadd 1 p2, a1, Option.bind_some, if_pos rfl, k4, Option.bind_some, elid, Option.bind_some, a2, Option.bind_some, if_pos nI_0, Option.bind_some, Option.bind_some, show nI t + 1 = nI (t + 1) from nadd t 1]
    · obtain ⟨v, kk, w⟩ := a
      have e1 : kk = nI n := ha.1
      subst e1
      simp only [gL_setUp_90]
      rw [if_pos (by rw [nle (by omega) (by omega)]; omega)]
  obtain ⟨⟨bv, bk, w⟩, q1, q2, q3, T, O, R⟩ := hlp
  have q3 : bv = 1 := q3
  have R : RX (Fx D2 T n) w := R
  subst q3
  refine ⟨w, D2, T, ?_, O, R⟩
  have hin : inC (Fx D2 T n) = 0 := ct_false (fun i _ => by
    show (T i 5 == 1) = false
    rw [O.2.2.2.2.2.1 i 5 (by omega)]
    rfl)
  simp only [fL_setUp]
  rw [show (1 : Int32) = nI 1 from rfl, eg, Option.bind_some, show (4 : Int32) = nI 4 from rfl, ea, Option.bind_some]
  rw [show fL_low (g >>> (3 &&& 31)) (nI 4) u = some (nI b) from eb, Option.bind_some, show fL_low (g >>> (6 &&& 31)) 14 u = some (nI c) from ec, Option.bind_some, show (2 : Int32) + nI a = nI (2 + a) from nadd 2 a, show (2 : Int32) + nI b = nI (2 + b) from nadd 2 b, show (3 : Int32) + nI c = nI (3 + c) from nadd 3 c, s1, Option.bind_some, if_pos rfl, show fL_low (g >>> (11 &&& 31)) 3 u1 = some (nI d) from ed, Option.bind_some, es, Option.bind_some, s2, Option.bind_some, h50, if_pos (show nI 50 = 50 from rfl), Option.bind_some, Option.bind_some]
  rw [show lp (gL_setUp_90 L xs (nI 1) (nI n)) FU (nI 1, 0, u2) = some (1, bk, w) from q1, Option.bind_some]
  rw [if_neg (show ¬ (1 : Int32) = 0 by decide), show fX6_count (nI 4) w = some (nI n) from c_count4 R.2.1, Option.bind_some, if_pos rfl, c_count5 R.1 R.2.1, hin, Option.bind_some, if_pos nI_0]
  rfl
end C92
