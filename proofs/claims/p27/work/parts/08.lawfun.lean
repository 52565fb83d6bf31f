def fL_low (v0 : Int32) (v1 : Int32) (u : S) : Option (Int32) :=
gd (!(v1 == 0)) <|
some ((v0 &&& 2147483647) % v1)
def gL_bits_4  (u : S) (a1 : Int32 × Int32) : Option ((Int32 × Int32) ⊕ (Int32 × Int32)) :=
if a1.2 = 0 then
(some (.inl (a1.1, a1.2)))
else
(some (.inr (a1.1 + 1, a1.2 &&& (a1.2 - 1))))
def fL_bits (v0 : Int32) (u : S) : Option (Int32) :=
(lp (gL_bits_4  u) FU (0, v0)).bind fun e1 =>
some e1.1
def fL_cell (L : Nat) (xs : Nat → Int32) (v1 : Int32) (u : S) : Option (Int32) :=
(if (Int32.ofNat L) ≤ v1 then
(some ((86028157 * v1) + 49979693 : Int32))
else
(gd (inb v1 L) <|
some (xs v1.toNatClampNeg : Int32))).bind fun j1 =>
some j1
def fL_wide (v1 : Int32) (v2 : Int32) (u : S) : Option (Int32) :=
(if v2 = 0 then
(some (0 : Int32))
else
(some (1 : Int32))).bind fun j1 =>
(fX6_tray v1 j1 u).bind fun q2 =>
some q2
def fL_high (v1 : Int32) (u : S) : Option (Int32) :=
(fX6_tray v1 2 u).bind fun q1 =>
(fX6_tray v1 4 u).bind fun q2 =>
some (q1 + q2)
def gL_look_26 (v1 : Int32) (v3 : Int32) (v4 : Int32) (v7 : Int32) (u : S) (a2 : Int32 × Int32 × Int32) : Option ((Int32 × Int32 × Int32) ⊕ (Int32 × Int32 × Int32)) :=
(if v4 = 0 then
(some (1 : Int32))
else
(some (0 : Int32))).bind fun j202 =>
(fL_wide v1 j202 u).bind fun q203 =>
if (v3 + q203) ≤ a2.2.2 then
(some (.inl (a2.1, a2.2.1, a2.2.2)))
else
((fX6_seen v7 a2.2.2 1 u).bind fun q204 =>
(if q204 ≤ a2.1 then
((if q204 = a2.1 then
(some (a2.2.1 + 1 : Int32))
else
(some (a2.2.1 : Int32))).bind fun j206 =>
some (j206 : Int32))
else
(some (1 : Int32))).bind fun j205 =>
(if q204 ≤ a2.1 then
(some (a2.1 : Int32))
else
(some (q204 : Int32))).bind fun j207 =>
some (.inr (j207, j205, a2.2.2 + 1)))
def gL_look_9 (v1 : Int32) (v2 : Int32) (v3 : Int32) (v4 : Int32) (u : S) (a1 : Int32 × Int32 × Int32) : Option ((Int32 × Int32 × Int32) ⊕ (Int32 × Int32 × Int32)) :=
(fL_wide v1 v4 u).bind fun q101 =>
if (v2 + q101) ≤ a1.2.2 then
(some (.inl (a1.1, a1.2.1, a1.2.2)))
else
((lp (gL_look_26 v1 v3 v4 a1.2.2 u) FU (a1.1, a1.2.1, v3)).bind fun e102 =>
some (.inr (e102.1, e102.2.1, a1.2.2 + 1)))
def fL_look (v1 : Int32) (v2 : Int32) (v3 : Int32) (v4 : Int32) (u : S) : Option (Int32) :=
(lp (gL_look_9 v1 v2 v3 v4 u) FU (0, 0, v2)).bind fun e1 =>
some ((1000 * e1.2.1) + e1.1)
def fL_canLie (v1 : Int32) (v2 : Int32) (v3 : Int32) (v4 : Int32) (u : S) : Option (Int32) :=
if v2 < 0 then
(some 0)
else
(if v3 < 0 then
(some 0)
else
((fL_wide v1 v4 u).bind fun q1 =>
(fX6_count 0 u).bind fun q2 =>
if q2 < (v2 + q1) then
(some 0)
else
((if v4 = 0 then
(some (1 : Int32))
else
(some (0 : Int32))).bind fun j3 =>
(fL_wide v1 j3 u).bind fun q4 =>
(fX6_count 1 u).bind fun q5 =>
if (v3 + q4) ≤ q5 then
((fL_look v1 v2 v3 v4 u).bind fun q6 =>
(fL_high v1 u).bind fun q7 =>
(fX6_count 2 u).bind fun q8 =>
(if q8 < ((q6 % 1000) + q7) then
(some (0 : Int32))
else
((fX6_count 3 u).bind fun q10 =>
(fX6_tray v1 0 u).bind fun q11 =>
(fX6_tray v1 1 u).bind fun q12 =>
(if (100 * (q6 / 1000)) < ((q10 * q11) * q12) then
(some (0 : Int32))
else
(some (1 : Int32))).bind fun j13 =>
some (j13 : Int32))).bind fun j9 =>
gd (isb j9) <| some j9)
else
(some 0))))
def fL_covers (v1 : Int32) (v2 : Int32) (v3 : Int32) (u : S) : Option (Int32) :=
(fX6_tray v1 6 u).bind fun q1 =>
(if q1 = 1 then
(some (1 : Int32))
else
(some (0 : Int32))).bind fun j2 =>
(fX6_tray v1 5 u).bind fun q3 =>
(if q3 = 1 then
((fX6_tray v1 7 u).bind fun q5 =>
(if v2 < q5 then
(some (0 : Int32))
else
((fX6_tray v1 7 u).bind fun q7 =>
(fL_wide v1 j2 u).bind fun q8 =>
(if (q7 + q8) ≤ v2 then
(some (0 : Int32))
else
((fX6_tray v1 8 u).bind fun q10 =>
(if v3 < q10 then
(some (0 : Int32))
else
((fX6_tray v1 8 u).bind fun q12 =>
(if j2 = 0 then
(some (1 : Int32))
else
(some (0 : Int32))).bind fun j13 =>
(fL_wide v1 j13 u).bind fun q14 =>
(if (q12 + q14) ≤ v3 then
(some (0 : Int32))
else
(some (1 : Int32))).bind fun j15 =>
some (j15 : Int32))).bind fun j11 =>
some (j11 : Int32))).bind fun j9 =>
some (j9 : Int32))).bind fun j6 =>
some (j6 : Int32))
else
(some (0 : Int32))).bind fun j4 =>
gd (isb j4) <| some j4
def fL_turn (v1 : Int32) (u : S) : Option (Int32 × S) :=
(fX6_count 4 u).bind fun q1 =>
(fL_low v1 q1 u).bind fun q2 =>
(fX6_count 0 u).bind fun q3 =>
(fL_low (v1 >>> (4 &&& 31)) q3 u).bind fun q4 =>
(fX6_count 1 u).bind fun q5 =>
(fL_low (v1 >>> (7 &&& 31)) q5 u).bind fun q6 =>
(fL_low (v1 >>> (10 &&& 31)) 3 u).bind fun q7 =>
(if q7 = 0 then
(some (1 : Int32))
else
(some (0 : Int32))).bind fun j8 =>
(fL_wide q2 j8 u).bind fun q9 =>
(fX6_count 0 u).bind fun q10 =>
(if q10 < (q4 + q9) then
(some (0 : Int32))
else
((if j8 = 0 then
(some (1 : Int32))
else
(some (0 : Int32))).bind fun j12 =>
(fL_wide q2 j12 u).bind fun q13 =>
(fX6_count 1 u).bind fun q14 =>
(if q14 < (q6 + q13) then
(some (0 : Int32))
else
(some (1 : Int32))).bind fun j15 =>
some (j15 : Int32))).bind fun j11 =>
(fX6_tray q2 5 u).bind fun q16 =>
if q16 = 1 then
((fX6_tray q2 9 u).bind fun q31 =>
(fX6_tray q2 13 u).bind fun q32 =>
(if q32 = 1 then
(some (1 : Int32))
else
(some (0 : Int32))).bind fun j33 =>
(fL_low (v1 >>> (12 &&& 31)) 3 u).bind fun q34 =>
(if q34 = 0 then
(some (1 : Int32))
else
(some (0 : Int32))).bind fun j35 =>
(if j35 = 0 then
((fX6_letDown q2 q4 q6 j8 u).bind fun q37 =>
(if j11 = 0 then
(some ((-1) : Int32))
else
(some ((-2) : Int32))).bind fun j38 =>
(if q37.1 = j38 then
(some (1 : Int32))
else
(some (0 : Int32))).bind fun j39 =>
some ((j39 : Int32), q37.2))
else
((fX6_takeOut q2 u).bind fun q40 =>
(if j33 = 0 then
(some ((-2) : Int32))
else
(some (q31 : Int32))).bind fun j41 =>
(if q40.1 = j41 then
(some (1 : Int32))
else
(some (0 : Int32))).bind fun j42 =>
some ((j42 : Int32), q40.2))).bind fun j36 =>
gd (isb j36.1) <| some (j36.1, j36.2))
else
((fL_canLie q2 q4 q6 j8 u).bind fun q17 =>
(if j11 = 0 then
(some (0 : Int32))
else
((fL_look q2 q4 q6 j8 u).bind fun q19 =>
some (q19 % 1000 : Int32))).bind fun j18 =>
(fX6_letDown q2 q4 q6 j8 u).bind fun q20 =>
(if j11 = 0 then
(some ((-1) : Int32))
else
((if q17 = 0 then
(some ((-3) : Int32))
else
(some (j18 : Int32))).bind fun j22 =>
some (j22 : Int32))).bind fun j21 =>
(if q20.1 = j21 then
((if q17 = 0 then
(some (1 : Int32))
else
((fX6_tray q2 7 q20.2).bind fun q25 =>
(if q25 = q4 then
((fX6_tray q2 8 q20.2).bind fun q27 =>
(if q27 = q6 then
((fX6_tray q2 9 q20.2).bind fun q29 =>
(if q29 = j18 then
(some (1 : Int32))
else
(some (0 : Int32))).bind fun j30 =>
some (j30 : Int32))
else
(some (0 : Int32))).bind fun j28 =>
some (j28 : Int32))
else
(some (0 : Int32))).bind fun j26 =>
some (j26 : Int32))).bind fun j24 =>
some (j24 : Int32))
else
(some (0 : Int32))).bind fun j23 =>
gd (isb j23) <| some (j23, q20.2))
def gL_told_145 (v1 : Int32) (v6 : Int32) (v7 : Int32) (v10 : Int32) (a4 : Int32 × Int32 × S) : Option (((Int32 × S) ⊕ (Int32 × Int32 × S)) ⊕ (Int32 × Int32 × S)) :=
if v1 ≤ a4.2.1 then
(some (.inl (.inr (a4.1, a4.2.1, a4.2.2))))
else
(if a4.2.1 = v10 then
(some (.inr (a4.1, a4.2.1 + 1, a4.2.2)))
else
((fL_covers a4.2.1 v6 v7 a4.2.2).bind fun q413 =>
if q413 = 0 then
(some (.inr (a4.1, a4.2.1 + 1, a4.2.2)))
else
((fX6_tray a4.2.1 9 a4.2.2).bind fun q414 =>
(fX6_tray v10 10 a4.2.2).bind fun q415 =>
(if q414 < q415 then
(some (0 : Int32))
else
(some (1 : Int32))).bind fun j416 =>
if j416 = 0 then
((fX6_tray v10 9 a4.2.2).bind fun q423 =>
(fX6_tray a4.2.1 10 a4.2.2).bind fun q424 =>
if q424 ≤ q423 then
(gd (inb v10 12) <|
(if j416 = 0 then
(some (0 : Int32))
else
(some (1 <<< (a4.2.1 &&& 31) : Int32))).bind fun j425 =>
gd (inb v10 12) <|
nm (up a4.2.2 168 v10.toNatClampNeg ((a4.2.2.1 168 v10.toNatClampNeg) ||| j425)) fun u426 =>
(if a4.1 = 0 then
((fX6_tray a4.2.1 10 u426).bind fun q428 =>
(fX6_tray v10 9 u426).bind fun q429 =>
(if q428 = q429 then
(some (1 : Int32))
else
(some (0 : Int32))).bind fun j430 =>
some (j430 : Int32))
else
(some (1 : Int32))).bind fun j427 =>
some (.inr (j427, a4.2.1 + 1, u426)))
else
(some (.inl (.inl (0, a4.2.2)))))
else
(gd (inb v10 12) <|
(if j416 = 0 then
(some (0 : Int32))
else
(some (1 <<< (a4.2.1 &&& 31) : Int32))).bind fun j417 =>
gd (inb v10 12) <|
nm (up a4.2.2 168 v10.toNatClampNeg ((a4.2.2.1 168 v10.toNatClampNeg) ||| j417)) fun u418 =>
(if a4.1 = 0 then
((fX6_tray a4.2.1 10 u418).bind fun q420 =>
(fX6_tray v10 9 u418).bind fun q421 =>
(if q420 = q421 then
(some (1 : Int32))
else
(some (0 : Int32))).bind fun j422 =>
some (j422 : Int32))
else
(some (1 : Int32))).bind fun j419 =>
some (.inr (j419, a4.2.1 + 1, u418))))))
def gL_told_55 (v1 : Int32) (v6 : Int32) (v7 : Int32) (a3 : Int32 × Int32 × Int32 × Int32 × S) : Option (((Int32 × S) ⊕ (Int32 × Int32 × Int32 × Int32 × S)) ⊕ (Int32 × Int32 × Int32 × Int32 × S)) :=
if v1 ≤ a3.2.2.2.1 then
(some (.inl (.inr (a3.1, a3.2.1, a3.2.2.1, a3.2.2.2.1, a3.2.2.2.2))))
else
((fL_covers a3.2.2.2.1 v6 v7 a3.2.2.2.2).bind fun q305 =>
if q305 = 0 then
(some (.inr (a3.1, a3.2.1, a3.2.2.1, a3.2.2.2.1 + 1, a3.2.2.2.2)))
else
((fX6_tray a3.2.2.2.1 10 a3.2.2.2.2).bind fun q306 =>
(if q306 ≤ a3.2.1 then
(some (a3.2.2.1 : Int32))
else
(some (a3.2.2.2.1 : Int32))).bind fun j307 =>
(fX6_tray a3.2.2.2.1 10 a3.2.2.2.2).bind fun q308 =>
(if q308 ≤ a3.2.1 then
(some (a3.2.1 : Int32))
else
((fX6_tray a3.2.2.2.1 10 a3.2.2.2.2).bind fun q310 =>
some (q310 : Int32))).bind fun j309 =>
(fX6_tray a3.2.2.2.1 9 a3.2.2.2.2).bind fun q311 =>
(if q311 = 0 then
(some (1 : Int32))
else
(some (0 : Int32))).bind fun j312 =>
(lp (gL_told_145 v1 v6 v7 a3.2.2.2.1) FU (j312, 0, a3.2.2.2.2)).bind (Sum.elim (fun x => some (.inl (.inl x))) fun e313 =>
(if e313.1 = 0 then
(some (0 : Int32))
else
(some (1 : Int32))).bind fun j332 =>
some (.inr (a3.1 + j332, j309, j307, a3.2.2.2.1 + 1, e313.2.2)))))
def gL_told_35 (v1 : Int32) (v6 : Int32) (a2 : Int32 × Int32 × Int32 × S) : Option (((Int32 × S) ⊕ (Int32 × Int32 × Int32 × S)) ⊕ (Int32 × Int32 × Int32 × S)) :=
(fX6_count 1 a2.2.2.2).bind fun q204 =>
if q204 ≤ a2.2.2.1 then
(some (.inl (.inr (a2.1, a2.2.1, a2.2.2.1, a2.2.2.2))))
else
((lp (gL_told_55 v1 v6 a2.2.2.1) FU (a2.2.1, 0, (-9), 0, a2.2.2.2)).bind (Sum.elim (fun x => some (.inl (.inl x))) fun e205 =>
(if e205.2.1 ≤ a2.1 then
(some (a2.1 : Int32))
else
(some (e205.2.1 : Int32))).bind fun j234 =>
(fX6_seen v6 a2.2.2.1 1 e205.2.2.2.2).bind fun q235 =>
if q235 = e205.2.1 then
((fX6_seen v6 a2.2.2.1 0 e205.2.2.2.2).bind fun q236 =>
if q236 = e205.2.2.1 then
(some (.inr (j234, e205.1, a2.2.2.1 + 1, e205.2.2.2.2)))
else
(some (.inl (.inl (0, e205.2.2.2.2)))))
else
(some (.inl (.inl (0, e205.2.2.2.2))))))
def gL_told_22 (v1 : Int32) (a1 : Int32 × Int32 × Int32 × S) : Option (((Int32 × S) ⊕ (Int32 × Int32 × Int32 × S)) ⊕ (Int32 × Int32 × Int32 × S)) :=
(fX6_count 0 a1.2.2.2).bind fun q103 =>
if q103 ≤ a1.2.2.1 then
(some (.inl (.inr (a1.1, a1.2.1, a1.2.2.1, a1.2.2.2))))
else
((lp (gL_told_35 v1 a1.2.2.1) FU (a1.1, a1.2.1, 0, a1.2.2.2)).bind (Sum.elim (fun x => some (.inl (.inl x))) fun e104 =>
some (.inr (e104.1, e104.2.1, a1.2.2.1 + 1, e104.2.2.2))))
def gL_told_434 (v1 : Int32) (u : S) (a3 : Int32 × Int32) : Option ((Int32 × Int32) ⊕ (Int32 × Int32)) :=
if v1 ≤ a3.2 then
(some (.inl (a3.1, a3.2)))
else
((if ((a3.1 >>> (a3.2 &&& 31)) &&& 1) = 1 then
(gd (inb a3.2 12) <|
some (u.1 168 a3.2.toNatClampNeg : Int32))
else
(some (0 : Int32))).bind fun j340 =>
some (.inr (a3.1 ||| j340, a3.2 + 1)))
def gL_told_425 (v1 : Int32) (u : S) (a2 : Int32 × Int32) : Option ((Int32 × Int32) ⊕ (Int32 × Int32)) :=
if v1 ≤ a2.2 then
(some (.inl (a2.1, a2.2)))
else
((lp (gL_told_434 v1 u) FU (a2.1, 0)).bind fun e240 =>
some (.inr (e240.1, a2.2 + 1)))
def gL_told_482 (v1 : Int32) (v11 : Int32) (v12 : Int32) (u : S) (a2 : Int32 × Int32) : Option ((Int32 × Int32) ⊕ (Int32 × Int32)) :=
if v1 ≤ a2.2 then
(some (.inl (a2.1, a2.2)))
else
((if ((v12 >>> (a2.2 &&& 31)) &&& 1) = 1 then
((fX6_tray a2.2 3 u).bind fun q244 =>
(fX6_tray v11 3 u).bind fun q245 =>
(if q244 ≤ q245 then
(some (0 : Int32))
else
(some (1 : Int32))).bind fun j246 =>
some (j246 : Int32))
else
(some (0 : Int32))).bind fun j243 =>
some (.inr (a2.1 + j243, a2.2 + 1)))
def gL_told_374 (v1 : Int32) (u : S) (a1 : Int32 × Int32 × Int32 × Int32 × Int32 × Int32 × Int32) : Option (((Int32 × S) ⊕ (Int32 × Int32 × Int32 × Int32 × Int32 × Int32 × Int32)) ⊕ (Int32 × Int32 × Int32 × Int32 × Int32 × Int32 × Int32)) :=
if v1 ≤ a1.2.2.2.2.2.2 then
(some (.inl (.inr (a1.1, a1.2.1, a1.2.2.1, a1.2.2.2.1, a1.2.2.2.2.1, a1.2.2.2.2.2.1, a1.2.2.2.2.2.2))))
else
((fX6_tray a1.2.2.2.2.2.2 5 u).bind fun q139 =>
if q139 = 0 then
((fX6_tray a1.2.2.2.2.2.2 9 u).bind fun q166 =>
if q166 = (-9) then
((fX6_tray a1.2.2.2.2.2.2 6 u).bind fun q167 =>
if q167 = 0 then
(some (.inr (a1.1, a1.2.1, a1.2.2.1, a1.2.2.2.1, a1.2.2.2.2.1, a1.2.2.2.2.2.1, a1.2.2.2.2.2.2 + 1)))
else
(some (.inl (.inl (0, u)))))
else
(some (.inl (.inl (0, u)))))
else
(gd (inb a1.2.2.2.2.2.2 12) <|
(lp (gL_told_425 v1 u) FU (u.1 168 a1.2.2.2.2.2.2.toNatClampNeg, 0)).bind fun e140 =>
(lp (gL_told_482 v1 a1.2.2.2.2.2.2 e140.1 u) FU (0, 0)).bind fun e143 =>
(fL_bits e140.1 u).bind fun q148 =>
gd (inb a1.2.2.2.2.2.2 12) <|
(if (u.1 168 a1.2.2.2.2.2.2.toNatClampNeg) = 0 then
(some (1 : Int32))
else
(some (0 : Int32))).bind fun j149 =>
(fX6_tray a1.2.2.2.2.2.2 0 u).bind fun q150 =>
(fX6_tray a1.2.2.2.2.2.2 1 u).bind fun q151 =>
(fL_high a1.2.2.2.2.2.2 u).bind fun q152 =>
(fX6_tray a1.2.2.2.2.2.2 15 u).bind fun q153 =>
(fX6_tray a1.2.2.2.2.2.2 10 u).bind fun q154 =>
(fX6_tray a1.2.2.2.2.2.2 9 u).bind fun q155 =>
(fL_high a1.2.2.2.2.2.2 u).bind fun q156 =>
if q154 = (q155 + q156) then
((fX6_tray a1.2.2.2.2.2.2 10 u).bind fun q157 =>
(fX6_count 2 u).bind fun q158 =>
if q158 < q157 then
(some (.inl (.inl (0, u))))
else
((fX6_tray a1.2.2.2.2.2.2 14 u).bind fun q159 =>
if q159 = e140.1 then
((fX6_tray a1.2.2.2.2.2.2 11 u).bind fun q160 =>
(fL_bits e140.1 u).bind fun q161 =>
if q160 = q161 then
((fX6_tray a1.2.2.2.2.2.2 12 u).bind fun q162 =>
if q162 = e143.1 then
((fX6_tray a1.2.2.2.2.2.2 13 u).bind fun q163 =>
gd (inb a1.2.2.2.2.2.2 12) <|
(if (u.1 168 a1.2.2.2.2.2.2.toNatClampNeg) = 0 then
(some (1 : Int32))
else
(some (0 : Int32))).bind fun j164 =>
if q163 = j164 then
((fX6_tray a1.2.2.2.2.2.2 15 u).bind fun q165 =>
if 1 ≤ q165 then
(some (.inr (a1.1 + ((q150 * q151) * q152), a1.2.1 + e143.1, a1.2.2.1 + q148, a1.2.2.2.1 + j149, a1.2.2.2.2.1 + 1, a1.2.2.2.2.2.1 + q153, a1.2.2.2.2.2.2 + 1)))
else
(some (.inl (.inl (0, u)))))
else
(some (.inl (.inl (0, u)))))
else
(some (.inl (.inl (0, u)))))
else
(some (.inl (.inl (0, u)))))
else
(some (.inl (.inl (0, u))))))
else
(some (.inl (.inl (0, u))))))
def fL_told  (u : S) : Option (Int32 × S) :=
(fX6_count 4 u).bind fun q1 =>
nm (zrS 168 u) fun u2 =>
(lp (gL_told_22 q1) FU (0, 0, 0, u2)).bind (Sum.elim (fun x => some x) fun e3 =>
(lp (gL_told_374 q1 e3.2.2.2) FU (0, 0, 0, 0, 0, 0, 0)).bind (Sum.elim (fun x => some x) fun e39 =>
(fX6_count 0 e3.2.2.2).bind fun q69 =>
(fX6_count 1 e3.2.2.2).bind fun q70 =>
(if e39.2.2.2.2.2.1 = e3.2.1 then
((fX6_count 5 e3.2.2.2).bind fun q72 =>
(if q72 = e39.2.2.2.2.1 then
((fX6_count 6 e3.2.2.2).bind fun q74 =>
(if q74 = e39.2.2.2.1 then
((fX6_count 7 e3.2.2.2).bind fun q76 =>
(if q76 = e3.1 then
((fX6_count 8 e3.2.2.2).bind fun q78 =>
(if q78 = (((q69 * q70) * e3.1) - e39.1) then
((if (((q69 * q70) * e3.1) - e39.1) < 0 then
(some (0 : Int32))
else
((fX6_count 9 e3.2.2.2).bind fun q81 =>
(if q81 = e39.2.1 then
((fX6_count 10 e3.2.2.2).bind fun q83 =>
(if q83 = e39.2.2.1 then
(some (1 : Int32))
else
(some (0 : Int32))).bind fun j84 =>
some (j84 : Int32))
else
(some (0 : Int32))).bind fun j82 =>
some (j82 : Int32))).bind fun j80 =>
some (j80 : Int32))
else
(some (0 : Int32))).bind fun j79 =>
some (j79 : Int32))
else
(some (0 : Int32))).bind fun j77 =>
some (j77 : Int32))
else
(some (0 : Int32))).bind fun j75 =>
some (j75 : Int32))
else
(some (0 : Int32))).bind fun j73 =>
some (j73 : Int32))
else
(some (0 : Int32))).bind fun j71 =>
gd (isb j71) <| some (j71, e3.2.2.2)))
def gL_best_31 (v1 : Int32) (v4 : Int32) (v5 : Int32) (a3 : Int32 × Int32 × S) : Option ((Int32 × Int32 × S) ⊕ (Int32 × Int32 × S)) :=
(fX6_tray v1 0 a3.2.2).bind fun q303 =>
(fX6_tray v1 1 a3.2.2).bind fun q304 =>
(if q303 = q304 then
(some (1 : Int32))
else
(some (2 : Int32))).bind fun j305 =>
if j305 ≤ a3.2.1 then
(some (.inl (a3.1, a3.2.1, a3.2.2)))
else
((if a3.2.1 = 1 then
(some (1 : Int32))
else
(some (0 : Int32))).bind fun j306 =>
(fL_canLie v1 v5 v4 j306 a3.2.2).bind fun q307 =>
if q307 = 0 then
(some (.inr (a3.1, a3.2.1 + 1, a3.2.2)))
else
((if a3.2.1 = 1 then
(some (1 : Int32))
else
(some (0 : Int32))).bind fun j308 =>
(fL_look v1 v5 v4 j308 a3.2.2).bind fun q309 =>
(fL_high v1 a3.2.2).bind fun q310 =>
gd (inb 0 1) <|
gd (inb 0 1) <|
nm (up a3.2.2 168 (0 : Int32).toNatClampNeg ((a3.2.2.1 168 (0 : Int32).toNatClampNeg) + 1)) fun u311 =>
(if a3.1 < 0 then
(some ((((1000 * ((q309 % 1000) + q310)) + (100 * v4)) + (10 * v5)) + a3.2.1 : Int32))
else
((if (a3.1 / 1000) ≤ ((q309 % 1000) + q310) then
(some (a3.1 : Int32))
else
(some ((((1000 * ((q309 % 1000) + q310)) + (100 * v4)) + (10 * v5)) + a3.2.1 : Int32))).bind fun j313 =>
some (j313 : Int32))).bind fun j312 =>
some (.inr (j312, a3.2.1 + 1, u311))))
def gL_best_18 (v1 : Int32) (v4 : Int32) (a2 : Int32 × Int32 × S) : Option ((Int32 × Int32 × S) ⊕ (Int32 × Int32 × S)) :=
(fX6_count 0 a2.2.2).bind fun q202 =>
if q202 ≤ a2.2.1 then
(some (.inl (a2.1, a2.2.1, a2.2.2)))
else
((lp (gL_best_31 v1 v4 a2.2.1) FU (a2.1, 0, a2.2.2)).bind fun e203 =>
some (.inr (e203.1, a2.2.1 + 1, e203.2.2)))
def gL_best_5 (v1 : Int32) (a1 : Int32 × Int32 × S) : Option ((Int32 × Int32 × S) ⊕ (Int32 × Int32 × S)) :=
(fX6_count 1 a1.2.2).bind fun q101 =>
if q101 ≤ a1.2.1 then
(some (.inl (a1.1, a1.2.1, a1.2.2)))
else
((lp (gL_best_18 v1 a1.2.1) FU (a1.1, 0, a1.2.2)).bind fun e102 =>
some (.inr (e102.1, a1.2.1 + 1, e102.2.2)))
def fL_best (v1 : Int32) (u : S) : Option (Int32 × S) :=
(lp (gL_best_5 v1) FU ((-1), 0, u)).bind fun e1 =>
some (e1.1, e1.2.2)
def fL_placed (v1 : Int32) (u : S) : Option (Int32 × S) :=
(fX6_tray v1 5 u).bind fun q1 =>
if q1 = 1 then
((fX6_place v1 0 u).bind fun q22 =>
(if q22.1 = (-2) then
((fX6_places v1 q22.2).bind fun q24 =>
(if q24.1 = (-2) then
(some (1 : Int32))
else
(some (0 : Int32))).bind fun j25 =>
some ((j25 : Int32), q24.2))
else
(some ((0 : Int32), q22.2))).bind fun j23 =>
gd (isb j23.1) <| some (j23.1, j23.2))
else
(nm (zrS 168 u) fun u2 =>
(fL_best v1 u2).bind fun q3 =>
(fX6_places v1 q3.2).bind fun q4 =>
nm (mgS 168 q3.2 q4.2) fun u5 =>
gd (inb 0 1) <|
if q4.1 = (u5.1 168 (0 : Int32).toNatClampNeg) then
((if 0 ≤ q3.1 then
((fX6_place v1 0 u5).bind fun q7 =>
nm (mgS 168 u5 q7.2) fun u8 =>
(if q7.1 = ((q3.1 / 10) % 10) then
((fX6_place v1 1 u8).bind fun q10 =>
nm (mgS 168 u8 q10.2) fun u11 =>
(if q10.1 = ((q3.1 / 100) % 10) then
((fX6_place v1 2 u11).bind fun q13 =>
nm (mgS 168 u11 q13.2) fun u14 =>
(if q13.1 = (q3.1 % 10) then
((fX6_place v1 3 u14).bind fun q16 =>
nm (mgS 168 u14 q16.2) fun u17 =>
(if q16.1 = (q3.1 / 1000) then
(some (1 : Int32))
else
(some (0 : Int32))).bind fun j18 =>
some ((j18 : Int32), u17))
else
(some ((0 : Int32), u14))).bind fun j15 =>
some ((j15.1 : Int32), j15.2))
else
(some ((0 : Int32), u11))).bind fun j12 =>
some ((j12.1 : Int32), j12.2))
else
(some ((0 : Int32), u8))).bind fun j9 =>
some ((j9.1 : Int32), j9.2))
else
((fX6_place v1 3 u5).bind fun q19 =>
nm (mgS 168 u5 q19.2) fun u20 =>
(if q19.1 = (-9) then
(some (1 : Int32))
else
(some (0 : Int32))).bind fun j21 =>
some ((j21 : Int32), u20))).bind fun j6 =>
gd (isb j6.1) <| some (j6.1, j6.2))
else
(some (0, u5)))
def gL_setUp_90 (L : Nat) (xs : Nat → Int32) (v2 : Int32) (v3 : Int32) (a1 : Int32 × Int32 × S) : Option ((Int32 × Int32 × S) ⊕ (Int32 × Int32 × S)) :=
if v3 ≤ a1.2.1 then
(some (.inl (a1.1, a1.2.1, a1.2.2)))
else
(if a1.1 = 0 then
(some (.inl (a1.1, a1.2.1, a1.2.2)))
else
((fL_cell L xs ((v2 + 1) + a1.2.1) a1.2.2).bind fun q112 =>
(fL_low q112 4 a1.2.2).bind fun q113 =>
(fL_low (q112 >>> (3 &&& 31)) 4 a1.2.2).bind fun q114 =>
(fL_low (q112 >>> (6 &&& 31)) 3 a1.2.2).bind fun q115 =>
(fL_low (q112 >>> (9 &&& 31)) 10 a1.2.2).bind fun q116 =>
(fX6_add (1 + q113) (1 + q114) (1 + q115) q116 a1.2.2).bind fun q117 =>
(if q117.1 = a1.2.1 then
((fL_low (q112 >>> (14 &&& 31)) 4 q117.2).bind fun q119 =>
(if q119 = 0 then
(some (1 : Int32))
else
(some (0 : Int32))).bind fun j120 =>
(fX6_setTray a1.2.1 1 j120 q117.2).bind fun q121 =>
(if q121.1 = 0 then
(some (1 : Int32))
else
(some (0 : Int32))).bind fun j122 =>
some ((j122 : Int32), q121.2))
else
(some ((0 : Int32), q117.2))).bind fun j118 =>
some (.inr (j118.1, a1.2.1 + 1, j118.2))))
def fL_setUp (L : Nat) (xs : Nat → Int32) (v2 : Int32) (v3 : Int32) (u : S) : Option (Int32 × S) :=
(fL_cell L xs v2 u).bind fun q1 =>
(fL_low q1 4 u).bind fun q2 =>
(fL_low (q1 >>> (3 &&& 31)) 4 u).bind fun q3 =>
(fL_low (q1 >>> (6 &&& 31)) 14 u).bind fun q4 =>
(fX6_setBox (2 + q2) (2 + q3) (3 + q4) u).bind fun q5 =>
(if q5.1 = 0 then
((fL_low (q1 >>> (11 &&& 31)) 3 q5.2).bind fun q7 =>
(if q7 = 0 then
((fL_low (q1 >>> (13 &&& 31)) 101 q5.2).bind fun q9 =>
some (q9 : Int32))
else
(some (20 : Int32))).bind fun j8 =>
(fX6_setShare j8 q5.2).bind fun q10 =>
(if q10.1 = 50 then
(some (1 : Int32))
else
(some (0 : Int32))).bind fun j11 =>
some ((j11 : Int32), q10.2))
else
(some ((0 : Int32), q5.2))).bind fun j6 =>
(lp (gL_setUp_90 L xs v2 v3) FU (j6.1, 0, j6.2)).bind fun e12 =>
(if e12.1 = 0 then
(some (0 : Int32))
else
((fX6_count 4 e12.2.2).bind fun q25 =>
(if q25 = v3 then
((fX6_count 5 e12.2.2).bind fun q27 =>
(if q27 = 0 then
(some (1 : Int32))
else
(some (0 : Int32))).bind fun j28 =>
some (j28 : Int32))
else
(some (0 : Int32))).bind fun j26 =>
some (j26 : Int32))).bind fun j24 =>
gd (isb j24) <| some (j24, e12.2.2)
def gL_packed_46 (v1 : Int32) (a1 : Int32 × S) : Option ((Int32 × S) ⊕ (Int32 × S)) :=
if v1 ≤ a1.1 then
(some (.inl (a1.1, a1.2)))
else
((fX6_tray a1.1 0 a1.2).bind fun q111 =>
(fX6_tray a1.1 1 a1.2).bind fun q112 =>
(fX6_tray a1.1 2 a1.2).bind fun q113 =>
(fX6_tray a1.1 3 a1.2).bind fun q114 =>
(fX6_add q111 q112 q113 q114 (shS 168 a1.2)).bind fun q115 =>
nm (ptS 168 168 a1.2 q115.2) fun u116 =>
(fX6_tray a1.1 4 u116).bind fun q117 =>
(fX6_setTray a1.1 1 q117 (shS 168 u116)).bind fun q118 =>
nm (ptS 168 168 u116 q118.2) fun u119 =>
some (.inr (a1.1 + 1, u119)))
def gL_packed_121 (v3 : Int32) (u : S) (a2 : Int32 × Int32) : Option ((Int32 × Int32) ⊕ (Int32 × Int32)) :=
if a2.2 < 0 then
(some (.inl (a2.1, a2.2)))
else
((fX6_tray a2.2 0 u).bind fun q221 =>
(fX6_tray a2.2 1 u).bind fun q222 =>
(if a2.1 < 0 then
(some (1 : Int32))
else
((fX6_tray a2.2 3 u).bind fun q224 =>
(fX6_tray a2.1 3 u).bind fun q225 =>
(if q225 < q224 then
(some (1 : Int32))
else
((fX6_tray a2.2 3 u).bind fun q227 =>
(fX6_tray a2.1 3 u).bind fun q228 =>
(if q227 = q228 then
((fX6_tray a2.1 0 u).bind fun q230 =>
(fX6_tray a2.1 1 u).bind fun q231 =>
(if (q221 * q222) < (q230 * q231) then
(some (0 : Int32))
else
(some (1 : Int32))).bind fun j232 =>
some (j232 : Int32))
else
(some (0 : Int32))).bind fun j229 =>
some (j229 : Int32))).bind fun j226 =>
some (j226 : Int32))).bind fun j223 =>
(if ((v3 >>> (a2.2 &&& 31)) &&& 1) = 0 then
((if j223 = 0 then
(some (a2.1 : Int32))
else
(some (a2.2 : Int32))).bind fun j234 =>
some (j234 : Int32))
else
(some (a2.1 : Int32))).bind fun j233 =>
some (.inr (j233, a2.2 + (-1))))
def gL_packed_107 (v1 : Int32) (a1 : Int32 × Int32 × Int32 × S) : Option (((Int32 × S) ⊕ (Int32 × Int32 × Int32 × S)) ⊕ (Int32 × Int32 × Int32 × S)) :=
if v1 ≤ a1.2.2.1 then
(some (.inl (.inr (a1.1, a1.2.1, a1.2.2.1, a1.2.2.2))))
else
((lp (gL_packed_121 a1.1 a1.2.2.2) FU ((-1), v1 - 1)).bind fun e121 =>
(fX6_ifPacked 0 (10 + a1.2.2.1) a1.2.2.2).bind fun q136 =>
nm (mgS 168 a1.2.2.2 q136.2) fun u137 =>
if q136.1 = e121.1 then
(nm (zrS 336 u137) fun u138 =>
(fL_best e121.1 (shS 168 u138)).bind fun q139 =>
nm (ptS 168 169 u138 q139.2) fun u140 =>
(if 0 ≤ q139.1 then
(some (0 : Int32))
else
(some (1 : Int32))).bind fun j141 =>
if q139.1 < 0 then
(some (.inr (a1.1 ||| (1 <<< (e121.1 &&& 31)), a1.2.1 + j141, a1.2.2.1 + 1, u140)))
else
((if (q139.1 % 10) = 1 then
(some (1 : Int32))
else
(some (0 : Int32))).bind fun j142 =>
(fX6_letDown e121.1 ((q139.1 / 10) % 10) ((q139.1 / 100) % 10) j142 (shS 168 u140)).bind fun q143 =>
nm (ptS 168 168 u140 q143.2) fun u144 =>
if 0 ≤ q143.1 then
(some (.inr (a1.1 ||| (1 <<< (e121.1 &&& 31)), a1.2.1 + j141, a1.2.2.1 + 1, u144)))
else
(some (.inl (.inl (0, u144))))))
else
(some (.inl (.inl (0, u137)))))
def gL_packed_439 (v5 : Int32) (u : S) (a2 : Int32) : Option (((Int32 × S) ⊕ (Int32)) ⊕ (Int32)) :=
if 11 ≤ a2 then
(some (.inl (.inr a2)))
else
((fX6_tray v5 a2 u).bind fun q261 =>
(fX6_tray v5 a2 (shS 168 u)).bind fun q262 =>
if q261 = q262 then
(some (.inr (a2 + 1)))
else
(some (.inl (.inl (0, u)))))
def gL_packed_430 (v1 : Int32) (u : S) (a1 : Int32) : Option (((Int32 × S) ⊕ (Int32)) ⊕ (Int32)) :=
if v1 ≤ a1 then
(some (.inl (.inr a1)))
else
((lp (gL_packed_439 a1 u) FU 5).bind (Sum.elim (fun x => some (.inl (.inl x))) fun e161 =>
some (.inr (a1 + 1))))
def fL_packed  (u : S) : Option (Int32 × S) :=
(fX6_count 4 u).bind fun q1 =>
nm (niS u) fun u2 =>
(fX6_count 0 u2).bind fun q3 =>
(fX6_count 1 u2).bind fun q4 =>
(fX6_count 2 u2).bind fun q5 =>
(fX6_setBox q3 q4 q5 (shS 168 u2)).bind fun q6 =>
nm (ptS 168 168 u2 q6.2) fun u7 =>
(fX6_count 3 u7).bind fun q8 =>
(fX6_setShare q8 (shS 168 u7)).bind fun q9 =>
nm (ptS 168 168 u7 q9.2) fun u10 =>
(lp (gL_packed_46 q1) FU (0, u10)).bind fun e11 =>
(lp (gL_packed_107 q1) FU (0, 0, 0, e11.2)).bind (Sum.elim (fun x => some x) fun e21 =>
(fX6_ifPacked 0 0 e21.2.2.2).bind fun q46 =>
nm (mgS 168 e21.2.2.2 q46.2) fun u47 =>
if q46.1 = e21.2.1 then
((fX6_ifPacked 0 1 u47).bind fun q48 =>
nm (mgS 168 u47 q48.2) fun u49 =>
(fX6_count 9 (shS 168 u49)).bind fun q50 =>
if q48.1 = q50 then
((fX6_ifPacked 0 2 u49).bind fun q51 =>
nm (mgS 168 u49 q51.2) fun u52 =>
(fX6_count 7 (shS 168 u52)).bind fun q53 =>
if q51.1 = q53 then
((fX6_ifPacked 0 3 u52).bind fun q54 =>
nm (mgS 168 u52 q54.2) fun u55 =>
(fX6_count 8 (shS 168 u55)).bind fun q56 =>
if q54.1 = q56 then
((fX6_ifPacked 0 (10 + q1) u55).bind fun q57 =>
nm (mgS 168 u55 q57.2) fun u58 =>
if q57.1 = (-9) then
((fX6_pack u58).bind fun q59 =>
nm (mgS 168 u58 q59.2) fun u60 =>
if q59.1 = e21.2.1 then
((lp (gL_packed_430 q1 u60) FU 0).bind (Sum.elim (fun x => some x) fun e61 =>
some (1, u60)))
else
(some (0, u60)))
else
(some (0, u58)))
else
(some (0, u55)))
else
(some (0, u52)))
else
(some (0, u49)))
else
(some (0, u47)))
