/-- java/lang/Integer.bitCount(I)I -/
def fJ6_bitCount_0f7a4 (v0 : Int32) (u : S) : Option (Int32) :=
some ((((((((v0 - (((v0.toUInt32 >>> ((1 : Int32).toUInt32 &&& Int32.toUInt32 31)).toInt32) &&& 1431655765)) &&& 858993459) + ((((v0 - (((v0.toUInt32 >>> ((1 : Int32).toUInt32 &&& Int32.toUInt32 31)).toInt32) &&& 1431655765)).toUInt32 >>> ((2 : Int32).toUInt32 &&& Int32.toUInt32 31)).toInt32) &&& 858993459)) + (((((v0 - (((v0.toUInt32 >>> ((1 : Int32).toUInt32 &&& Int32.toUInt32 31)).toInt32) &&& 1431655765)) &&& 858993459) + ((((v0 - (((v0.toUInt32 >>> ((1 : Int32).toUInt32 &&& Int32.toUInt32 31)).toInt32) &&& 1431655765)).toUInt32 >>> ((2 : Int32).toUInt32 &&& Int32.toUInt32 31)).toInt32) &&& 858993459)).toUInt32 >>> ((4 : Int32).toUInt32 &&& Int32.toUInt32 31)).toInt32)) &&& 252645135) + (((((((v0 - (((v0.toUInt32 >>> ((1 : Int32).toUInt32 &&& Int32.toUInt32 31)).toInt32) &&& 1431655765)) &&& 858993459) + ((((v0 - (((v0.toUInt32 >>> ((1 : Int32).toUInt32 &&& Int32.toUInt32 31)).toInt32) &&& 1431655765)).toUInt32 >>> ((2 : Int32).toUInt32 &&& Int32.toUInt32 31)).toInt32) &&& 858993459)) + (((((v0 - (((v0.toUInt32 >>> ((1 : Int32).toUInt32 &&& Int32.toUInt32 31)).toInt32) &&& 1431655765)) &&& 858993459) + ((((v0 - (((v0.toUInt32 >>> ((1 : Int32).toUInt32 &&& Int32.toUInt32 31)).toInt32) &&& 1431655765)).toUInt32 >>> ((2 : Int32).toUInt32 &&& Int32.toUInt32 31)).toInt32) &&& 858993459)).toUInt32 >>> ((4 : Int32).toUInt32 &&& Int32.toUInt32 31)).toInt32)) &&& 252645135).toUInt32 >>> ((8 : Int32).toUInt32 &&& Int32.toUInt32 31)).toInt32)) + ((((((((v0 - (((v0.toUInt32 >>> ((1 : Int32).toUInt32 &&& Int32.toUInt32 31)).toInt32) &&& 1431655765)) &&& 858993459) + ((((v0 - (((v0.toUInt32 >>> ((1 : Int32).toUInt32 &&& Int32.toUInt32 31)).toInt32) &&& 1431655765)).toUInt32 >>> ((2 : Int32).toUInt32 &&& Int32.toUInt32 31)).toInt32) &&& 858993459)) + (((((v0 - (((v0.toUInt32 >>> ((1 : Int32).toUInt32 &&& Int32.toUInt32 31)).toInt32) &&& 1431655765)) &&& 858993459) + ((((v0 - (((v0.toUInt32 >>> ((1 : Int32).toUInt32 &&& Int32.toUInt32 31)).toInt32) &&& 1431655765)).toUInt32 >>> ((2 : Int32).toUInt32 &&& Int32.toUInt32 31)).toInt32) &&& 858993459)).toUInt32 >>> ((4 : Int32).toUInt32 &&& Int32.toUInt32 31)).toInt32)) &&& 252645135) + (((((((v0 - (((v0.toUInt32 >>> ((1 : Int32).toUInt32 &&& Int32.toUInt32 31)).toInt32) &&& 1431655765)) &&& 858993459) + ((((v0 - (((v0.toUInt32 >>> ((1 : Int32).toUInt32 &&& Int32.toUInt32 31)).toInt32) &&& 1431655765)).toUInt32 >>> ((2 : Int32).toUInt32 &&& Int32.toUInt32 31)).toInt32) &&& 858993459)) + (((((v0 - (((v0.toUInt32 >>> ((1 : Int32).toUInt32 &&& Int32.toUInt32 31)).toInt32) &&& 1431655765)) &&& 858993459) + ((((v0 - (((v0.toUInt32 >>> ((1 : Int32).toUInt32 &&& Int32.toUInt32 31)).toInt32) &&& 1431655765)).toUInt32 >>> ((2 : Int32).toUInt32 &&& Int32.toUInt32 31)).toInt32) &&& 858993459)).toUInt32 >>> ((4 : Int32).toUInt32 &&& Int32.toUInt32 31)).toInt32)) &&& 252645135).toUInt32 >>> ((8 : Int32).toUInt32 &&& Int32.toUInt32 31)).toInt32)).toUInt32 >>> ((16 : Int32).toUInt32 &&& Int32.toUInt32 31)).toInt32)) &&& 63)
/-- TrayBox$Tray.copyFrom(LTrayBox$Tray;)V -/
def fX5_copyFrom (v0 : Nat) (v1 : Nat) (u : S) : Option (S) :=
nm (up u v0 0 (u.1 v1 0)) fun u1 =>
nm (up u1 v0 1 (u1.1 v1 1)) fun u2 =>
nm (up u2 v0 2 (u2.1 v1 2)) fun u3 =>
nm (up u3 v0 3 (u3.1 v1 3)) fun u4 =>
nm (up u4 v0 4 (u4.1 v1 4)) fun u5 =>
gd (isb (u5.1 v1 5)) <| nm (up u5 v0 5 (u5.1 v1 5)) fun u6 =>
gd (isb (u6.1 v1 6)) <| nm (up u6 v0 6 (u6.1 v1 6)) fun u7 =>
nm (up u7 v0 7 (u7.1 v1 7)) fun u8 =>
nm (up u8 v0 8 (u8.1 v1 8)) fun u9 =>
nm (up u9 v0 9 (u9.1 v1 9)) fun u10 =>
nm (up u10 v0 10 (u10.1 v1 10)) fun u11 =>
nm (up u11 v0 11 (u11.1 v1 11)) fun u12 =>
nm (up u12 v0 12 (u12.1 v1 12)) fun u13 =>
nm (up u13 v0 13 (u13.1 v1 13)) fun u14 =>
some u14
/-- TrayBox$Box.copyTrays(LTrayBox$Box;)V -/
def gX0_copyTrays_10 (v0 : Nat) (v1 : Nat) (a1 : Int32 × S) : Option ((Int32 × S) ⊕ (Int32 × S)) :=
if (a1.2.1 (132 + v0) 4) ≤ a1.1 then
(some (.inl (a1.1, a1.2)))
else
(gd (inb a1.1 12) <|
gd (inb a1.1 12) <|
(fX5_copyFrom (12 * v0 + a1.1.toNatClampNeg) (12 * v1 + a1.1.toNatClampNeg) a1.2).bind fun q104 =>
some (.inr (a1.1 + 1, q104)))
def fX0_copyTrays (v0 : Nat) (v1 : Nat) (u : S) : Option (S) :=
nm (up u (132 + v0) 4 (u.1 (132 + v1) 4)) fun u1 =>
(lp (gX0_copyTrays_10 v0 v1) FU (0, u1)).bind fun e2 =>
some e2.2
/-- TrayBox$Box.copyFrom(LTrayBox$Box;)V -/
def fX0_copyFrom (v0 : Nat) (v1 : Nat) (u : S) : Option (S) :=
nm (up u (132 + v0) 0 (u.1 (132 + v1) 0)) fun u1 =>
nm (up u1 (132 + v0) 1 (u1.1 (132 + v1) 1)) fun u2 =>
nm (up u2 (132 + v0) 2 (u2.1 (132 + v1) 2)) fun u3 =>
nm (up u3 (132 + v0) 3 (u3.1 (132 + v1) 3)) fun u4 =>
(fX0_copyTrays v0 v1 u4).bind fun q5 =>
some q5
/-- TrayBox$Tray.leave()V -/
def fX5_leave (v0 : Nat) (u : S) : Option (S) :=
nm (up u v0 5 0) fun u1 =>
nm (up u1 v0 6 0) fun u2 =>
some u2
/-- TrayBox$Box.clear()V -/
def gX0_clear_2 (v0 : Nat) (a1 : Int32 × S) : Option ((Int32 × S) ⊕ (Int32 × S)) :=
if (a1.2.1 (132 + v0) 4) ≤ a1.1 then
(some (.inl (a1.1, a1.2)))
else
(gd (inb a1.1 12) <|
(fX5_leave (12 * v0 + a1.1.toNatClampNeg) a1.2).bind fun q102 =>
some (.inr (a1.1 + 1, q102)))
def fX0_clear (v0 : Nat) (u : S) : Option (S) :=
(lp (gX0_clear_2 v0) FU (0, u)).bind fun e1 =>
some e1.2
/-- TrayBox$Box.remove(I)V -/
def gX0_remove_2 (v0 : Nat) (a1 : Int32 × S) : Option ((Int32 × S) ⊕ (Int32 × S)) :=
if ((a1.2.1 (132 + v0) 4) - 1) ≤ a1.1 then
(some (.inl (a1.1, a1.2)))
else
(gd (inb a1.1 12) <|
gd (inb (a1.1 + 1) 12) <|
(fX5_copyFrom (12 * v0 + a1.1.toNatClampNeg) (12 * v0 + (a1.1 + 1).toNatClampNeg) a1.2).bind fun q103 =>
some (.inr (a1.1 + 1, q103)))
def fX0_remove (v0 : Nat) (v1 : Int32) (u : S) : Option (S) :=
(lp (gX0_remove_2 v0) FU (v1, u)).bind fun e1 =>
nm (up e1.2 (132 + v0) 4 ((e1.2.1 (132 + v0) 4) - 1)) fun u5 =>
some u5
/-- TrayBox$Box.has(I)Z -/
def fX0_has (v0 : Nat) (v1 : Int32) (u : S) : Option (Int32) :=
if v1 < 0 then
(some 0)
else
(if (u.1 (132 + v0) 4) ≤ v1 then
(some 0)
else
(some 1))
/-- TrayBox$Tray.alongX(Z)I -/
def fX5_alongX (v0 : Nat) (v1 : Int32) (u : S) : Option (Int32) :=
if v1 = 0 then
(some (u.1 v0 0))
else
(some (u.1 v0 1))
/-- TrayBox$Tray.alongY(Z)I -/
def fX5_alongY (v0 : Nat) (v1 : Int32) (u : S) : Option (Int32) :=
if v1 = 0 then
(some (u.1 v0 1))
else
(some (u.1 v0 0))
/-- TrayBox$Box.encloses(LTrayBox$Tray;IIZ)Z -/
def fX0_encloses (v0 : Nat) (v1 : Nat) (v2 : Int32) (v3 : Int32) (v4 : Int32) (u : S) : Option (Int32) :=
if v2 < 0 then
(some 0)
else
((fX5_alongX v1 v4 u).bind fun q1 =>
if ((u.1 (132 + v0) 0) - q1) < v2 then
(some 0)
else
(if v3 < 0 then
(some 0)
else
((fX5_alongY v1 v4 u).bind fun q2 =>
if ((u.1 (132 + v0) 1) - q2) < v3 then
(some 0)
else
(some 1))))
/-- TrayBox$Tray.tall()I -/
def fX5_tall (v0 : Nat) (u : S) : Option (Int32) :=
some ((u.1 v0 2) + (u.1 v0 4))
/-- TrayBox$Box.highestFloor(LTrayBox$Tray;)I -/
def fX0_highestFloor (v0 : Nat) (v1 : Nat) (u : S) : Option (Int32) :=
(fX5_tall v1 u).bind fun q1 =>
some ((u.1 (132 + v0) 2) - q1)
/-- TrayBox$Box.inside()I -/
def gX0_inside_4 (v0 : Nat) (u : S) (a1 : Int32 × Int32) : Option ((Int32 × Int32) ⊕ (Int32 × Int32)) :=
if (u.1 (132 + v0) 4) ≤ a1.2 then
(some (.inl (a1.1, a1.2)))
else
(gd (inb a1.2 12) <|
if (u.1 (12 * v0 + a1.2.toNatClampNeg) 5) = 0 then
(some (.inr (a1.1, a1.2 + 1)))
else
(some (.inr (a1.1 ||| (1 <<< (a1.2 &&& 31)), a1.2 + 1))))
def fX0_inside (v0 : Nat) (u : S) : Option (Int32) :=
(lp (gX0_inside_4 v0 u) FU (0, 0)).bind fun e1 =>
some e1.1
/-- TrayBox$Tray.covers(II)Z -/
def fX5_covers (v0 : Nat) (v1 : Int32) (v2 : Int32) (u : S) : Option (Int32) :=
if (u.1 v0 5) = 0 then
(some 0)
else
(if v1 < (u.1 v0 7) then
(some 0)
else
(if (u.1 v0 9) ≤ v1 then
(some 0)
else
(if v2 < (u.1 v0 8) then
(some 0)
else
(if (u.1 v0 10) ≤ v2 then
(some 0)
else
(some 1)))))
/-- TrayBox$Box.uppermost(II)I -/
def gX0_uppermost_9 (v0 : Nat) (v1 : Int32) (v2 : Int32) (u : S) (a1 : Int32 × Int32 × Int32) : Option ((Int32 × Int32 × Int32) ⊕ (Int32 × Int32 × Int32)) :=
if (u.1 (132 + v0) 4) ≤ a1.2.2 then
(some (.inl (a1.1, a1.2.1, a1.2.2)))
else
(gd (inb a1.2.2 12) <|
(fX5_covers (12 * v0 + a1.2.2.toNatClampNeg) v1 v2 u).bind fun q102 =>
if q102 = 0 then
(some (.inr (a1.1, a1.2.1, a1.2.2 + 1)))
else
(gd (inb a1.2.2 12) <|
if (u.1 (12 * v0 + a1.2.2.toNatClampNeg) 12) ≤ a1.2.1 then
(some (.inr (a1.1, a1.2.1, a1.2.2 + 1)))
else
(gd (inb a1.2.2 12) <|
some (.inr (a1.2.2, u.1 (12 * v0 + a1.2.2.toNatClampNeg) 12, a1.2.2 + 1)))))
def fX0_uppermost (v0 : Nat) (v1 : Int32) (v2 : Int32) (u : S) : Option (Int32) :=
(lp (gX0_uppermost_9 v0 v1 v2 u) FU ((-9), 0, 0)).bind fun e1 =>
some e1.1
/-- TrayBox$Tray.liesOn(LTrayBox$Tray;)Z -/
def fX5_liesOn (v0 : Nat) (v1 : Nat) (u : S) : Option (Int32) :=
if (u.1 v0 5) = 0 then
(some 0)
else
(if (u.1 v1 5) = 0 then
(some 0)
else
(if (u.1 v0 11) < (u.1 v1 12) then
(some 0)
else
(if (u.1 v1 9) ≤ (u.1 v0 7) then
(some 0)
else
(if (u.1 v0 9) ≤ (u.1 v1 7) then
(some 0)
else
(if (u.1 v1 10) ≤ (u.1 v0 8) then
(some 0)
else
(if (u.1 v0 10) ≤ (u.1 v1 8) then
(some 0)
else
(some 1)))))))
/-- TrayBox$Box.lyingOn(I)I -/
def gX0_lyingOn_4 (v0 : Nat) (v1 : Int32) (u : S) (a1 : Int32 × Int32) : Option ((Int32 × Int32) ⊕ (Int32 × Int32)) :=
if (u.1 (132 + v0) 4) ≤ a1.2 then
(some (.inl (a1.1, a1.2)))
else
(gd (inb a1.2 12) <|
gd (inb v1 12) <|
(fX5_liesOn (12 * v0 + a1.2.toNatClampNeg) (12 * v0 + v1.toNatClampNeg) u).bind fun q103 =>
if q103 = 0 then
(some (.inr (a1.1, a1.2 + 1)))
else
(some (.inr (a1.1 ||| (1 <<< (a1.2 &&& 31)), a1.2 + 1))))
def fX0_lyingOn (v0 : Nat) (v1 : Int32) (u : S) : Option (Int32) :=
(lp (gX0_lyingOn_4 v0 v1 u) FU (0, 0)).bind fun e1 =>
some e1.1
/-- TrayBox$Box.isFree(I)Z -/
def fX0_isFree (v0 : Nat) (v1 : Int32) (u : S) : Option (Int32) :=
(fX0_lyingOn v0 v1 u).bind fun q1 =>
if q1 = 0 then
(some 1)
else
(some 0)
/-- TrayBox$Box.above(II)I -/
def gX0_above_41 (v0 : Nat) (v2 : Int32) (v6 : Int32) (u : S) (a2 : Int32 × Int32) : Option ((Int32 × Int32) ⊕ (Int32 × Int32)) :=
if (u.1 (132 + v0) 4) ≤ a2.2 then
(some (.inl (a2.1, a2.2)))
else
(if (v6 &&& (1 <<< (a2.2 &&& 31))) = 0 then
(some (.inr (a2.1, a2.2 + 1)))
else
((fX0_lyingOn v0 a2.2 u).bind fun q202 =>
some (.inr (a2.1 ||| (q202 &&& v2), a2.2 + 1))))
def gX0_above_14 (v0 : Nat) (v2 : Int32) (u : S) (a1 : Int32 × Int32 × Int32) : Option ((Int32 × Int32 × Int32) ⊕ (Int32 × Int32 × Int32)) :=
if 12 ≤ a1.2.2 then
(some (.inl (a1.1, a1.2.1, a1.2.2)))
else
(if a1.2.1 = a1.1 then
(some (.inl (a1.1, a1.2.1, a1.2.2)))
else
((lp (gX0_above_41 v0 v2 (a1.2.1 &&& (a1.1 ^^^ (-1))) u) FU (a1.2.1, 0)).bind fun e102 =>
some (.inr (a1.2.1, e102.1, a1.2.2 + 1))))
def fX0_above (v0 : Nat) (v1 : Int32) (v2 : Int32) (u : S) : Option (Int32) :=
(fX0_lyingOn v0 v1 u).bind fun q1 =>
(lp (gX0_above_14 v0 v2 u) FU (0, q1 &&& v2, 0)).bind fun e2 =>
some e2.2.1
/-- TrayBox$Box.lateOnes(II)I -/
def gX0_lateOnes_5 (v0 : Nat) (v1 : Int32) (v2 : Int32) (u : S) (a1 : Int32 × Int32) : Option ((Int32 × Int32) ⊕ (Int32 × Int32)) :=
if (u.1 (132 + v0) 4) ≤ a1.2 then
(some (.inl (a1.1, a1.2)))
else
(if (v1 &&& (1 <<< (a1.2 &&& 31))) = 0 then
(some (.inr (a1.1, a1.2 + 1)))
else
(gd (inb a1.2 12) <|
if (u.1 (12 * v0 + a1.2.toNatClampNeg) 3) ≤ v2 then
(some (.inr (a1.1, a1.2 + 1)))
else
(some (.inr (a1.1 + 1, a1.2 + 1)))))
def fX0_lateOnes (v0 : Nat) (v1 : Int32) (v2 : Int32) (u : S) : Option (Int32) :=
(lp (gX0_lateOnes_5 v0 v1 v2 u) FU (0, 0)).bind fun e1 =>
some e1.1
/-- TrayBox$Box.faultOf(I)I -/
def fX0_faultOf (v0 : Nat) (v1 : Int32) (u : S) : Option (Int32) :=
(fX0_inside v0 u).bind fun q1 =>
(fX0_above v0 v1 q1 u).bind fun q2 =>
gd (inb v1 12) <|
(fX0_lateOnes v0 q2 (u.1 (12 * v0 + v1.toNatClampNeg) 3) u).bind fun q4 =>
some q4
/-- TrayBox$Box.faults()I -/
def gX0_faults_9 (v0 : Nat) (v2 : Int32) (u : S) (a1 : Int32 × Int32) : Option ((Int32 × Int32) ⊕ (Int32 × Int32)) :=
if (u.1 (132 + v0) 4) ≤ a1.2 then
(some (.inl (a1.1, a1.2)))
else
((fX0_above v0 a1.2 v2 u).bind fun q102 =>
gd (inb a1.2 12) <|
(fX0_lateOnes v0 q102 (u.1 (12 * v0 + a1.2.toNatClampNeg) 3) u).bind fun q104 =>
some (.inr (a1.1 + q104, a1.2 + 1)))
def fX0_faults (v0 : Nat) (u : S) : Option (Int32) :=
(fX0_inside v0 u).bind fun q1 =>
(lp (gX0_faults_9 v0 q1 u) FU (0, 0)).bind fun e2 =>
some e2.1
/-- TrayBox$Box.lifts()I -/
def gX0_lifts_9 (v0 : Nat) (v2 : Int32) (u : S) (a1 : Int32 × Int32) : Option ((Int32 × Int32) ⊕ (Int32 × Int32)) :=
if (u.1 (132 + v0) 4) ≤ a1.2 then
(some (.inl (a1.1, a1.2)))
else
((fX0_above v0 a1.2 v2 u).bind fun q102 =>
(fJ6_bitCount_0f7a4 q102 u).bind fun q103 =>
some (.inr (a1.1 + q103, a1.2 + 1)))
def fX0_lifts (v0 : Nat) (u : S) : Option (Int32) :=
(fX0_inside v0 u).bind fun q1 =>
(lp (gX0_lifts_9 v0 q1 u) FU (0, 0)).bind fun e2 =>
some e2.1
/-- TrayBox$Box.freeTrays()I -/
def gX0_freeTrays_4 (v0 : Nat) (u : S) (a1 : Int32 × Int32) : Option ((Int32 × Int32) ⊕ (Int32 × Int32)) :=
if (u.1 (132 + v0) 4) ≤ a1.2 then
(some (.inl (a1.1, a1.2)))
else
(gd (inb a1.2 12) <|
if (u.1 (12 * v0 + a1.2.toNatClampNeg) 5) = 0 then
(some (.inr (a1.1, a1.2 + 1)))
else
((fX0_isFree v0 a1.2 u).bind fun q102 =>
if q102 = 0 then
(some (.inr (a1.1, a1.2 + 1)))
else
(some (.inr (a1.1 + 1, a1.2 + 1)))))
def fX0_freeTrays (v0 : Nat) (u : S) : Option (Int32) :=
(lp (gX0_freeTrays_4 v0 u) FU (0, 0)).bind fun e1 =>
some e1.1
/-- TrayBox$Box.filledHeight()I -/
def gX0_filledHeight_4 (v0 : Nat) (u : S) (a1 : Int32 × Int32) : Option ((Int32 × Int32) ⊕ (Int32 × Int32)) :=
if (u.1 (132 + v0) 4) ≤ a1.2 then
(some (.inl (a1.1, a1.2)))
else
(gd (inb a1.2 12) <|
if (u.1 (12 * v0 + a1.2.toNatClampNeg) 5) = 0 then
(some (.inr (a1.1, a1.2 + 1)))
else
(gd (inb a1.2 12) <|
some (.inr ((if a1.1 < (u.1 (12 * v0 + a1.2.toNatClampNeg) 12) then (u.1 (12 * v0 + a1.2.toNatClampNeg) 12) else a1.1), a1.2 + 1))))
def fX0_filledHeight (v0 : Nat) (u : S) : Option (Int32) :=
(lp (gX0_filledHeight_4 v0 u) FU (0, 0)).bind fun e1 =>
some e1.1
/-- TrayBox$Tray.area()I -/
def fX5_area (v0 : Nat) (u : S) : Option (Int32) :=
some ((u.1 v0 0) * (u.1 v0 1))
/-- TrayBox$Box.air()I -/
def gX0_air_17 (v0 : Nat) (u : S) (a1 : Int32 × Int32) : Option ((Int32 × Int32) ⊕ (Int32 × Int32)) :=
if (u.1 (132 + v0) 4) ≤ a1.2 then
(some (.inl (a1.1, a1.2)))
else
(gd (inb a1.2 12) <|
if (u.1 (12 * v0 + a1.2.toNatClampNeg) 5) = 0 then
(some (.inr (a1.1, a1.2 + 1)))
else
(gd (inb a1.2 12) <|
(fX5_area (12 * v0 + a1.2.toNatClampNeg) u).bind fun q104 =>
gd (inb a1.2 12) <|
(fX5_tall (12 * v0 + a1.2.toNatClampNeg) u).bind fun q106 =>
some (.inr (a1.1 - (q104 * q106), a1.2 + 1))))
def fX0_air (v0 : Nat) (u : S) : Option (Int32) :=
(fX0_filledHeight v0 u).bind fun q1 =>
(lp (gX0_air_17 v0 u) FU (((u.1 (132 + v0) 0) * (u.1 (132 + v0) 1)) * q1, 0)).bind fun e2 =>
some e2.1
/-- TrayBox$Box.playedLifts(I)I -/
def gX0_playedLifts_20 (v0 : Nat) (v1 : Int32) (v4 : Int32) (u : S) (a2 : Int32 × Int32 × Int32) : Option (((Int32) ⊕ (Int32 × Int32 × Int32)) ⊕ (Int32 × Int32 × Int32)) :=
if (u.1 (132 + v0) 4) ≤ a2.2.2 then
(some (.inl (.inr (a2.1, a2.2.1, a2.2.2))))
else
(gd (inb a2.2.2 12) <|
if (u.1 (12 * v0 + a2.2.2.toNatClampNeg) 3) = v4 then
(if (a2.1 &&& (1 <<< (a2.2.2 &&& 31))) = 0 then
(some (.inr (a2.1, a2.2.1, a2.2.2 + 1)))
else
((fX0_above v0 a2.2.2 a2.1 u).bind fun q203 =>
(fJ6_bitCount_0f7a4 q203 u).bind fun q204 =>
if a2.2.2 = v1 then
(some (.inl (.inl (a2.2.1 + q204))))
else
(some (.inr (a2.1 &&& ((1 <<< (a2.2.2 &&& 31)) ^^^ (-1)), a2.2.1 + q204, a2.2.2 + 1)))))
else
(some (.inr (a2.1, a2.2.1, a2.2.2 + 1))))
def gX0_playedLifts_10 (v0 : Nat) (v1 : Int32) (u : S) (a1 : Int32 × Int32 × Int32) : Option (((Int32) ⊕ (Int32 × Int32 × Int32)) ⊕ (Int32 × Int32 × Int32)) :=
if 9 < a1.2.2 then
(some (.inl (.inr (a1.1, a1.2.1, a1.2.2))))
else
((lp (gX0_playedLifts_20 v0 v1 a1.2.2 u) FU (a1.1, a1.2.1, 0)).bind (Sum.elim (fun x => some (.inl (.inl x))) fun e102 =>
some (.inr (e102.1, e102.2.1, a1.2.2 + 1))))
def fX0_playedLifts (v0 : Nat) (v1 : Int32) (u : S) : Option (Int32) :=
(fX0_inside v0 u).bind fun q1 =>
(lp (gX0_playedLifts_10 v0 v1 u) FU (q1, 0, 0)).bind (Sum.elim (fun x => some x) fun e2 =>
some e2.2.1)
/-- TrayBox$Finder.raise(LTrayBox$Box;LTrayBox$Tray;)V -/
def gX1_raise_47 (v0 : Nat) (v2 : Nat) (v3 : Int32) (a2 : Int32 × S) : Option ((Int32 × S) ⊕ (Int32 × S)) :=
if (a2.2.1 v2 9) ≤ a2.1 then
(some (.inl (a2.1, a2.2)))
else
(gd (inb ((v3 * 10) + a2.1) 100) <|
gd (inb ((v3 * 10) + a2.1) 100) <|
nm (up a2.2 (156 + v0) ((v3 * 10) + a2.1).toNatClampNeg (if (a2.2.1 (156 + v0) ((v3 * 10) + a2.1).toNatClampNeg) < (a2.2.1 v2 12) then (a2.2.1 v2 12) else (a2.2.1 (156 + v0) ((v3 * 10) + a2.1).toNatClampNeg))) fun u202 =>
some (.inr (a2.1 + 1, u202)))
def gX1_raise_33 (v0 : Nat) (v2 : Nat) (a1 : Int32 × S) : Option ((Int32 × S) ⊕ (Int32 × S)) :=
if (a1.2.1 v2 10) ≤ a1.1 then
(some (.inl (a1.1, a1.2)))
else
((lp (gX1_raise_47 v0 v2 a1.1) FU (a1.2.1 v2 7, a1.2)).bind fun e102 =>
some (.inr (a1.1 + 1, e102.2)))
def fX1_raise (v0 : Nat) (v1 : Nat) (v2 : Nat) (u : S) : Option (S) :=
if (u.1 v2 5) = 0 then
(some u)
else
((fX0_encloses v1 v2 (u.1 v2 7) (u.1 v2 8) (u.1 v2 6) u).bind fun q1 =>
if q1 = 0 then
(some u)
else
((lp (gX1_raise_33 v0 v2) FU (u.1 v2 8, u)).bind fun e2 =>
some e2.2))
/-- TrayBox$Finder.survey(LTrayBox$Box;)V -/
def gX1_survey_2 (v0 : Nat) (a1 : Int32 × S) : Option ((Int32 × S) ⊕ (Int32 × S)) :=
if (Int32.ofNat 100) ≤ a1.1 then
(some (.inl (a1.1, a1.2)))
else
(gd (inb a1.1 100) <|
nm (up a1.2 (156 + v0) a1.1.toNatClampNeg 0) fun u101 =>
some (.inr (a1.1 + 1, u101)))
def gX1_survey_26 (v0 : Nat) (v1 : Nat) (a1 : Int32 × S) : Option ((Int32 × S) ⊕ (Int32 × S)) :=
if (a1.2.1 (132 + v1) 4) ≤ a1.1 then
(some (.inl (a1.1, a1.2)))
else
(gd (inb a1.1 12) <|
(fX1_raise v0 v1 (12 * v1 + a1.1.toNatClampNeg) a1.2).bind fun q104 =>
some (.inr (a1.1 + 1, q104)))
def fX1_survey (v0 : Nat) (v1 : Nat) (u : S) : Option (S) :=
(lp (gX1_survey_2 v0) FU (0, u)).bind fun e1 =>
(lp (gX1_survey_26 v0 v1) FU (0, e1.2)).bind fun e3 =>
some e3.2
/-- TrayBox$Finder.holds(LTrayBox$Box;LTrayBox$Tray;IIZI)Z -/
def gX1_holds_60 (v0 : Nat) (v6 : Int32) (v7 : Int32) (v9 : Int32) (a2 : Int32 × S) : Option (((Int32 × S) ⊕ (Int32 × S)) ⊕ (Int32 × S)) :=
if v7 ≤ a2.1 then
(some (.inl (.inr (a2.1, a2.2))))
else
(gd (inb ((v9 * 10) + a2.1) 100) <|
if (a2.2.1 (156 + v0) ((v9 * 10) + a2.1).toNatClampNeg) ≤ v6 then
(if (a2.2.1 (156 + v0) ((v9 * 10) + a2.1).toNatClampNeg) ≤ (a2.2.1 (154 + v0) 1) then
(if (a2.2.1 (156 + v0) ((v9 * 10) + a2.1).toNatClampNeg) = (a2.2.1 (154 + v0) 1) then
(nm (up a2.2 (154 + v0) 2 ((a2.2.1 (154 + v0) 2) + 1)) fun u206 =>
some (.inr (a2.1 + 1, u206)))
else
(some (.inr (a2.1 + 1, a2.2))))
else
(nm (up a2.2 (154 + v0) 1 (a2.2.1 (156 + v0) ((v9 * 10) + a2.1).toNatClampNeg)) fun u207 =>
nm (up u207 (154 + v0) 2 1) fun u208 =>
some (.inr (a2.1 + 1, u208))))
else
(some (.inl (.inl (0, a2.2)))))
def gX1_holds_50 (v0 : Nat) (v3 : Int32) (v6 : Int32) (v7 : Int32) (v8 : Int32) (a1 : Int32 × S) : Option (((Int32 × S) ⊕ (Int32 × S)) ⊕ (Int32 × S)) :=
if v8 ≤ a1.1 then
(some (.inl (.inr (a1.1, a1.2))))
else
((lp (gX1_holds_60 v0 v6 v7 a1.1) FU (v3, a1.2)).bind (Sum.elim (fun x => some (.inl (.inl x))) fun e106 =>
some (.inr (a1.1 + 1, e106.2))))
def fX1_holds (v0 : Nat) (v1 : Nat) (v2 : Nat) (v3 : Int32) (v4 : Int32) (v5 : Int32) (v6 : Int32) (u : S) : Option (Int32 × S) :=
nm (up u (154 + v0) 1 0) fun u1 =>
nm (up u1 (154 + v0) 2 0) fun u2 =>
(fX0_encloses v1 v2 v3 v4 v5 u2).bind fun q3 =>
if q3 = 0 then
(some (0, u2))
else
((fX5_alongX v2 v5 u2).bind fun q4 =>
(fX5_alongY v2 v5 u2).bind fun q5 =>
(lp (gX1_holds_50 v0 v3 v6 (v3 + q4) (v4 + q5)) FU (v4, u2)).bind (Sum.elim (fun x => some x) fun e6 =>
(fX5_area v2 e6.2).bind fun q11 =>
if (100 * (e6.2.1 (154 + v0) 2)) < ((e6.2.1 (132 + v1) 3) * q11) then
(some (0, e6.2))
else
(some (1, e6.2))))
/-- TrayBox$Finder.keep(IIZ)V -/
def fX1_keep (v0 : Nat) (v1 : Int32) (v2 : Int32) (v3 : Int32) (u : S) : Option (S) :=
nm (up u (154 + v0) 3 ((u.1 (154 + v0) 3) + 1)) fun u1 =>
nm (up u1 (154 + v0) 4 v1) fun u2 =>
nm (up u2 (154 + v0) 5 v2) fun u3 =>
gd (isb v3) <| nm (up u3 (154 + v0) 6 v3) fun u4 =>
nm (up u4 (154 + v0) 7 (u4.1 (154 + v0) 1)) fun u5 =>
nm (up u5 (154 + v0) 8 (u5.1 (154 + v0) 2)) fun u6 =>
some u6
/-- TrayBox$Finder.search(LTrayBox$Box;LTrayBox$Tray;Z)V -/
def gX1_search_67 (v0 : Nat) (v1 : Nat) (v2 : Nat) (v3 : Int32) (v5 : Int32) (v6 : Int32) (v7 : Int32) (a3 : Int32 × Int32 × S) : Option ((Int32 × Int32 × S) ⊕ (Int32 × Int32 × S)) :=
if v5 ≤ a3.2.1 then
(some (.inl (a3.1, a3.2.1, a3.2.2)))
else
(if a3.2.1 = 1 then
((fX1_holds v0 v1 v2 v7 v6 1 a3.1 a3.2.2).bind fun q306 =>
if q306.1 = 0 then
(some (.inr (a3.1, a3.2.1 + 1, q306.2)))
else
(if a3.2.1 = 1 then
((fX1_keep v0 v7 v6 1 q306.2).bind fun q308 =>
if v3 = 0 then
(some (.inr (a3.1, a3.2.1 + 1, q308)))
else
(some (.inr ((q308.1 (154 + v0) 1) - 1, a3.2.1 + 1, q308))))
else
((fX1_keep v0 v7 v6 0 q306.2).bind fun q307 =>
if v3 = 0 then
(some (.inr (a3.1, a3.2.1 + 1, q307)))
else
(some (.inr ((q307.1 (154 + v0) 1) - 1, a3.2.1 + 1, q307))))))
else
((fX1_holds v0 v1 v2 v7 v6 0 a3.1 a3.2.2).bind fun q303 =>
if q303.1 = 0 then
(some (.inr (a3.1, a3.2.1 + 1, q303.2)))
else
(if a3.2.1 = 1 then
((fX1_keep v0 v7 v6 1 q303.2).bind fun q305 =>
if v3 = 0 then
(some (.inr (a3.1, a3.2.1 + 1, q305)))
else
(some (.inr ((q305.1 (154 + v0) 1) - 1, a3.2.1 + 1, q305))))
else
((fX1_keep v0 v7 v6 0 q303.2).bind fun q304 =>
if v3 = 0 then
(some (.inr (a3.1, a3.2.1 + 1, q304)))
else
(some (.inr ((q304.1 (154 + v0) 1) - 1, a3.2.1 + 1, q304)))))))
def gX1_search_50 (v0 : Nat) (v1 : Nat) (v2 : Nat) (v3 : Int32) (v5 : Int32) (v6 : Int32) (a2 : Int32 × Int32 × S) : Option ((Int32 × Int32 × S) ⊕ (Int32 × Int32 × S)) :=
if (a2.2.2.1 (132 + v1) 0) ≤ a2.2.1 then
(some (.inl (a2.1, a2.2.1, a2.2.2)))
else
(if a2.1 < 0 then
(some (.inl (a2.1, a2.2.1, a2.2.2)))
else
((lp (gX1_search_67 v0 v1 v2 v3 v5 v6 a2.2.1) FU (a2.1, 0, a2.2.2)).bind fun e203 =>
some (.inr (e203.1, a2.2.1 + 1, e203.2.2))))
def gX1_search_33 (v0 : Nat) (v1 : Nat) (v2 : Nat) (v3 : Int32) (v5 : Int32) (a1 : Int32 × Int32 × S) : Option ((Int32 × Int32 × S) ⊕ (Int32 × Int32 × S)) :=
if (a1.2.2.1 (132 + v1) 1) ≤ a1.2.1 then
(some (.inl (a1.1, a1.2.1, a1.2.2)))
else
(if a1.1 < 0 then
(some (.inl (a1.1, a1.2.1, a1.2.2)))
else
((lp (gX1_search_50 v0 v1 v2 v3 v5 a1.2.1) FU (a1.1, 0, a1.2.2)).bind fun e103 =>
some (.inr (e103.1, a1.2.1 + 1, e103.2.2))))
def fX1_search (v0 : Nat) (v1 : Nat) (v2 : Nat) (v3 : Int32) (u : S) : Option (S) :=
nm (up u (154 + v0) 3 0) fun u1 =>
(fX0_highestFloor v1 v2 u1).bind fun q2 =>
if (u1.1 v2 0) = (u1.1 v2 1) then
((lp (gX1_search_33 v0 v1 v2 v3 1) FU (q2, 0, u1)).bind fun e12 =>
some e12.2.2)
else
((lp (gX1_search_33 v0 v1 v2 v3 2) FU (q2, 0, u1)).bind fun e3 =>
some e3.2.2)
/-- TrayBox$History.record(LTrayBox$Box;)V -/
def fX2_record (v1 : Nat) (u : S) : Option (S) :=
if (u.1 158 0) = 8 then
(nm (up u 158 1 (((u.1 158 1) + 1) % 8)) fun u4 =>
nm (up u4 158 0 ((u4.1 158 0) - 1)) fun u5 =>
gd (inb (((u5.1 158 1) + (u5.1 158 0)) % 8) 8) <|
(fX0_copyFrom (1 + (((u5.1 158 1) + (u5.1 158 0)) % 8).toNatClampNeg) v1 u5).bind fun q7 =>
nm (up q7 158 0 ((q7.1 158 0) + 1)) fun u8 =>
some u8)
else
(gd (inb (((u.1 158 1) + (u.1 158 0)) % 8) 8) <|
(fX0_copyFrom (1 + (((u.1 158 1) + (u.1 158 0)) % 8).toNatClampNeg) v1 u).bind fun q2 =>
nm (up q2 158 0 ((q2.1 158 0) + 1)) fun u3 =>
some u3)
/-- TrayBox$History.restore(LTrayBox$Box;)V -/
def fX2_restore (v1 : Nat) (u : S) : Option (S) :=
if (u.1 158 0) ≤ 0 then
(some u)
else
(nm (up u 158 0 ((u.1 158 0) - 1)) fun u1 =>
gd (inb (((u1.1 158 1) + (u1.1 158 0)) % 8) 8) <|
(fX0_copyFrom v1 (1 + (((u1.1 158 1) + (u1.1 158 0)) % 8).toNatClampNeg) u1).bind fun q3 =>
some q3)
/-- TrayBox$Packer.isBefore(LTrayBox$Tray;LTrayBox$Tray;)Z -/
def fX3_isBefore (v0 : Nat) (v1 : Nat) (u : S) : Option (Int32) :=
if (u.1 v1 3) < (u.1 v0 3) then
(some 1)
else
(if (u.1 v0 3) = (u.1 v1 3) then
((fX5_area v0 u).bind fun q1 =>
(fX5_area v1 u).bind fun q2 =>
if q1 ≤ q2 then
(some 0)
else
(some 1))
else
(some 0))
/-- TrayBox$Tray.lie(IIZII)V -/
def fX5_lie (v0 : Nat) (v1 : Int32) (v2 : Int32) (v3 : Int32) (v4 : Int32) (v5 : Int32) (u : S) : Option (S) :=
nm (up u v0 5 1) fun u1 =>
gd (isb v3) <| nm (up u1 v0 6 v3) fun u2 =>
nm (up u2 v0 7 v1) fun u3 =>
nm (up u3 v0 8 v2) fun u4 =>
(fX5_alongX v0 v3 u4).bind fun q5 =>
nm (up u4 v0 9 (v1 + q5)) fun u6 =>
(fX5_alongY v0 v3 u6).bind fun q7 =>
nm (up u6 v0 10 (v2 + q7)) fun u8 =>
nm (up u8 v0 11 v4) fun u9 =>
(fX5_tall v0 u9).bind fun q10 =>
nm (up u9 v0 12 (v4 + q10)) fun u11 =>
nm (up u11 v0 13 v5) fun u12 =>
some u12
/-- TrayBox$Packer.letDownFrom([II)V -/
def gX3_letDownFrom_2 (v1 : Nat) (a1 : Int32 × S) : Option ((Int32 × S) ⊕ (Int32 × S)) :=
if (a1.2.1 (132 + 9) 4) ≤ a1.1 then
(some (.inl (a1.1, a1.2)))
else
(gd (inb a1.1 (ol v1)) <|
gd (inb (a1.2.1 (163 + v1) a1.1.toNatClampNeg) 12) <|
(fX5_leave (12 * 9 + (a1.2.1 (163 + v1) a1.1.toNatClampNeg).toNatClampNeg) a1.2).bind fun q102 =>
some (.inr (a1.1 + 1, q102)))
def gX3_letDownFrom_46 (v1 : Nat) (a1 : Int32 × S) : Option ((Int32 × S) ⊕ (Int32 × S)) :=
if (a1.2.1 (132 + 9) 4) ≤ a1.1 then
(some (.inl (a1.1, a1.2)))
else
(gd (inb a1.1 (ol v1)) <|
gd (inb (a1.2.1 (163 + v1) a1.1.toNatClampNeg) 12) <|
(fX1_search 1 9 (12 * 9 + (a1.2.1 (163 + v1) a1.1.toNatClampNeg).toNatClampNeg) 1 a1.2).bind fun q106 =>
if (q106.1 (154 + 1) 3) ≤ 0 then
(some (.inr (a1.1 + 1, q106)))
else
((fX5_lie (12 * 9 + (a1.2.1 (163 + v1) a1.1.toNatClampNeg).toNatClampNeg) (q106.1 (154 + 1) 4) (q106.1 (154 + 1) 5) (q106.1 (154 + 1) 6) (q106.1 (154 + 1) 7) (q106.1 (154 + 1) 8) q106).bind fun q107 =>
(fX1_raise 1 9 (12 * 9 + (a1.2.1 (163 + v1) a1.1.toNatClampNeg).toNatClampNeg) q107).bind fun q108 =>
some (.inr (a1.1 + 1, q108))))
def fX3_letDownFrom (v1 : Nat) (v2 : Int32) (u : S) : Option (S) :=
(lp (gX3_letDownFrom_2 v1) FU (v2, u)).bind fun e1 =>
(fX1_survey 1 9 e1.2).bind fun q4 =>
(lp (gX3_letDownFrom_46 v1) FU (v2, q4)).bind fun e5 =>
some e5.2
/-- TrayBox$Packer.measure([I)V -/
def fX3_measure (v1 : Nat) (u : S) : Option (S) :=
(fX0_inside 9 u).bind fun q1 =>
(fJ6_bitCount_0f7a4 q1 u).bind fun q2 =>
gd (inb 0 (ol v1)) <|
nm (up u (163 + v1) (0 : Int32).toNatClampNeg ((u.1 (132 + 9) 4) - q2)) fun u3 =>
(fX0_faults 9 u3).bind fun q4 =>
gd (inb 1 (ol v1)) <|
nm (up u3 (163 + v1) (1 : Int32).toNatClampNeg q4) fun u5 =>
(fX0_filledHeight 9 u5).bind fun q6 =>
gd (inb 2 (ol v1)) <|
nm (up u5 (163 + v1) (2 : Int32).toNatClampNeg q6) fun u7 =>
(fX0_air 9 u7).bind fun q8 =>
gd (inb 3 (ol v1)) <|
nm (up u7 (163 + v1) (3 : Int32).toNatClampNeg q8) fun u9 =>
some u9
/-- TrayBox$Packer.packUsually(LTrayBox$Box;)V -/
def gX3_packUsually_23 (v2 : Int32) (a2 : Int32 × S) : Option ((Int32 × S) ⊕ (Int32 × S)) :=
if a2.1 ≤ 0 then
(some (.inl (a2.1, a2.2)))
else
(gd (inb v2 12) <|
gd (inb (a2.1 - 1) 12) <|
gd (inb (a2.2.1 (163 + 0) (a2.1 - 1).toNatClampNeg) 12) <|
(fX3_isBefore (12 * 9 + v2.toNatClampNeg) (12 * 9 + (a2.2.1 (163 + 0) (a2.1 - 1).toNatClampNeg).toNatClampNeg) a2.2).bind fun q204 =>
if q204 = 0 then
(some (.inl (a2.1, a2.2)))
else
(gd (inb (a2.1 - 1) 12) <|
gd (inb a2.1 12) <|
nm (up a2.2 (163 + 0) a2.1.toNatClampNeg (a2.2.1 (163 + 0) (a2.1 - 1).toNatClampNeg)) fun u205 =>
some (.inr (a2.1 + (-1), u205))))
def gX3_packUsually_10  (a1 : Int32 × S) : Option ((Int32 × S) ⊕ (Int32 × S)) :=
if (a1.2.1 (132 + 9) 4) ≤ a1.1 then
(some (.inl (a1.1, a1.2)))
else
((lp (gX3_packUsually_23 a1.1) FU (a1.1, a1.2)).bind fun e102 =>
gd (inb e102.1 12) <|
nm (up e102.2 (163 + 0) e102.1.toNatClampNeg a1.1) fun u107 =>
some (.inr (a1.1 + 1, u107)))
def fX3_packUsually (v1 : Nat) (u : S) : Option (S) :=
(fX0_copyFrom 9 v1 u).bind fun q1 =>
(lp (gX3_packUsually_10 ) FU (0, q1)).bind fun e2 =>
(fX3_letDownFrom 0 0 e2.2).bind fun q9 =>
(fX3_measure 1 q9).bind fun q10 =>
some q10
/-- TrayBox$Packer.isTriedBetter()Z -/
def gX3_isTriedBetter_2  (u : S) (a1 : Int32) : Option (((Int32) ⊕ (Int32)) ⊕ (Int32)) :=
if 4 ≤ a1 then
(some (.inl (.inr a1)))
else
(gd (inb a1 4) <|
gd (inb a1 4) <|
if (u.1 (163 + 3) a1.toNatClampNeg) = (u.1 (163 + 1) a1.toNatClampNeg) then
(some (.inr (a1 + 1)))
else
(gd (inb a1 4) <|
gd (inb a1 4) <|
if (u.1 (163 + 1) a1.toNatClampNeg) ≤ (u.1 (163 + 3) a1.toNatClampNeg) then
(some (.inl (.inl 0)))
else
(some (.inl (.inl 1)))))
def fX3_isTriedBetter  (u : S) : Option (Int32) :=
(lp (gX3_isTriedBetter_2  u) FU 0).bind (Sum.elim (fun x => some x) fun e1 =>
some 0)
/-- TrayBox$Packer.swap(II)V -/
def fX3_swap (v1 : Int32) (v2 : Int32) (u : S) : Option (S) :=
gd (inb v1 12) <|
gd (inb v2 12) <|
gd (inb v1 12) <|
nm (up u (163 + 2) v1.toNatClampNeg (u.1 (163 + 2) v2.toNatClampNeg)) fun u1 =>
gd (inb v2 12) <|
nm (up u1 (163 + 2) v2.toNatClampNeg (u.1 (163 + 2) v1.toNatClampNeg)) fun u2 =>
some u2
/-- TrayBox$Packer.stepToNextOrder()I -/
def gX3_stepToNextOrder_10  (u : S) (a1 : Int32) : Option ((Int32) ⊕ (Int32)) :=
if a1 < 0 then
(some (.inl a1))
else
(gd (inb a1 12) <|
gd (inb (a1 + 1) 12) <|
if (u.1 (163 + 2) a1.toNatClampNeg) ≤ (u.1 (163 + 2) (a1 + 1).toNatClampNeg) then
(some (.inl a1))
else
(some (.inr (a1 + (-1)))))
def gX3_stepToNextOrder_54 (v1 : Int32) (u : S) (a1 : Int32) : Option ((Int32) ⊕ (Int32)) :=
if a1 ≤ v1 then
(some (.inl a1))
else
(gd (inb a1 12) <|
gd (inb v1 12) <|
if (u.1 (163 + 2) v1.toNatClampNeg) ≤ (u.1 (163 + 2) a1.toNatClampNeg) then
(some (.inl a1))
else
(some (.inr (a1 + (-1)))))
def gX3_stepToNextOrder_101  (a1 : Int32 × Int32 × S) : Option ((Int32 × Int32 × S) ⊕ (Int32 × Int32 × S)) :=
if a1.2.1 ≤ a1.1 then
(some (.inl (a1.1, a1.2.1, a1.2.2)))
else
((fX3_swap a1.1 a1.2.1 a1.2.2).bind fun q104 =>
some (.inr (a1.1 + 1, a1.2.1 + (-1), q104)))
def fX3_stepToNextOrder  (u : S) : Option (Int32 × S) :=
(lp (gX3_stepToNextOrder_10  u) FU ((u.1 (132 + 9) 4) - 2)).bind fun e1 =>
if 0 ≤ e1 then
((lp (gX3_stepToNextOrder_54 e1 u) FU ((u.1 (132 + 9) 4) - 1)).bind fun e2 =>
(fX3_swap e1 e2 u).bind fun q3 =>
(lp (gX3_stepToNextOrder_101 ) FU (e1 + 1, (q3.1 (132 + 9) 4) - 1, q3)).bind fun e4 =>
some (e1, e4.2.2))
else
(some ((-9), u))
/-- TrayBox$Packer.packByBest(LTrayBox$Box;)V -/
def gX3_packByBest_10  (a1 : Int32 × S) : Option ((Int32 × S) ⊕ (Int32 × S)) :=
if (a1.2.1 (132 + 9) 4) ≤ a1.1 then
(some (.inl (a1.1, a1.2)))
else
(gd (inb a1.1 12) <|
nm (up a1.2 (163 + 2) a1.1.toNatClampNeg a1.1) fun u102 =>
some (.inr (a1.1 + 1, u102)))
def gX3_packByBest_38  (a1 : Int32 × Int32 × S) : Option ((Int32 × Int32 × S) ⊕ (Int32 × Int32 × S)) :=
if 120 ≤ a1.2.1 then
(some (.inl (a1.1, a1.2.1, a1.2.2)))
else
(if a1.1 < 0 then
(some (.inl (a1.1, a1.2.1, a1.2.2)))
else
((fX3_letDownFrom 2 a1.1 a1.2.2).bind fun q104 =>
(fX3_measure 3 q104).bind fun q105 =>
if a1.2.1 = 0 then
(nm (cpA q105 (163 + 2) (163 + 0) 12) fun u106 =>
nm (cpA u106 (163 + 3) (163 + 1) 4) fun u107 =>
(fX3_stepToNextOrder u107).bind fun q108 =>
some (.inr (q108.1, a1.2.1 + 1, q108.2)))
else
((fX3_isTriedBetter q105).bind fun q109 =>
if q109 = 0 then
((fX3_stepToNextOrder q105).bind fun q110 =>
some (.inr (q110.1, a1.2.1 + 1, q110.2)))
else
(nm (cpA q105 (163 + 2) (163 + 0) 12) fun u111 =>
nm (cpA u111 (163 + 3) (163 + 1) 4) fun u112 =>
(fX3_stepToNextOrder u112).bind fun q113 =>
some (.inr (q113.1, a1.2.1 + 1, q113.2))))))
def fX3_packByBest (v1 : Nat) (u : S) : Option (S) :=
(fX0_copyFrom 9 v1 u).bind fun q1 =>
(lp (gX3_packByBest_10 ) FU (0, q1)).bind fun e2 =>
(lp (gX3_packByBest_38 ) FU (0, 0, e2.2)).bind fun e4 =>
(fX3_letDownFrom 0 0 e4.2.2).bind fun q15 =>
some q15
/-- TrayBox$Text.append(C)V -/
def fX4_append (v1 : Int32) (u : S) : Option (S) :=
if 100 ≤ (u.1 160 0) then
(some u)
else
(gd (inb (u.1 160 0) 100) <|
nm (up u 161 (u.1 160 0).toNatClampNeg (vp_nar .char v1)) fun u1 =>
nm (up u1 160 0 ((u1.1 160 0) + 1)) fun u2 =>
some u2)
/-- TrayBox$Text.next()C -/
def fX4_next  (u : S) : Option (Int32) :=
if (u.1 160 0) ≤ (u.1 160 4) then
(gd (vp_nar .char 0 == 0) <| some 0)
else
(if 100 ≤ (u.1 160 4) then
(gd (vp_nar .char 0 == 0) <| some 0)
else
(gd (inb (u.1 160 4) 100) <|
gd (vp_nar .char (u.1 161 (u.1 160 4).toNatClampNeg) == (u.1 161 (u.1 160 4).toNatClampNeg)) <| some (u.1 161 (u.1 160 4).toNatClampNeg)))
/-- TrayBox$Text.isDigit(C)Z -/
def fX4_isDigit (v0 : Int32) (u : S) : Option (Int32) :=
if v0 < 48 then
(some 0)
else
(if 57 < v0 then
(some 0)
else
(some 1))
/-- TrayBox$Text.fail(II)Z -/
def fX4_fail (v1 : Int32) (v2 : Int32) (u : S) : Option (Int32 × S) :=
nm (up u 160 1 v1) fun u1 =>
nm (up u1 160 4 v2) fun u2 =>
some (0, u2)
/-- TrayBox.isWithin(III)Z -/
def fX6_isWithin (v0 : Int32) (v1 : Int32) (v2 : Int32) (u : S) : Option (Int32) :=
if v0 < v1 then
(some 0)
else
(if v2 < v0 then
(some 0)
else
(some 1))
/-- TrayBox$Text.readNumber(I)Z -/
def gX4_readNumber_10 (v2 : Int32) (a1 : S) : Option ((S) ⊕ (S)) :=
if (v2 + 2) ≤ (a1.1 160 4) then
(some (.inl a1))
else
((fX4_next a1).bind fun q102 =>
(fX4_isDigit q102 a1).bind fun q103 =>
if q103 = 0 then
(some (.inl a1))
else
((fX4_next a1).bind fun q104 =>
nm (up a1 160 5 (((10 * (a1.1 160 5)) + q104) - 48)) fun u105 =>
nm (up u105 160 4 ((u105.1 160 4) + 1)) fun u106 =>
some (.inr u106)))
def fX4_readNumber (v1 : Int32) (u : S) : Option (Int32 × S) :=
nm (up u 160 5 0) fun u1 =>
(lp (gX4_readNumber_10 (u.1 160 4)) FU u1).bind fun e2 =>
if (e2.1 160 4) = (u.1 160 4) then
((fX4_fail 1 (e2.1 160 4) e2).bind fun q8 =>
gd (isb q8.1) <| some (q8.1, q8.2))
else
((fX4_next e2).bind fun q9 =>
(fX4_isDigit q9 e2).bind fun q10 =>
if q10 = 0 then
((fX6_isWithin (e2.1 160 5) 1 v1 e2).bind fun q11 =>
if q11 = 0 then
((fX4_fail 2 (u.1 160 4) e2).bind fun q12 =>
if q12.1 = 0 then
(some (0, q12.2))
else
(some (1, q12.2)))
else
(some (1, e2)))
else
((fX4_fail 1 (e2.1 160 4) e2).bind fun q13 =>
gd (isb q13.1) <| some (q13.1, q13.2)))
/-- TrayBox$Text.readSign(C)Z -/
def fX4_readSign (v1 : Int32) (u : S) : Option (Int32 × S) :=
(fX4_next u).bind fun q1 =>
if q1 = v1 then
(nm (up u 160 4 ((u.1 160 4) + 1)) fun u2 =>
some (1, u2))
else
((fX4_fail 1 (u.1 160 4) u).bind fun q3 =>
gd (isb q3.1) <| some (q3.1, q3.2))
/-- TrayBox$Tray.become(IIII)V -/
def fX5_become (v0 : Nat) (v1 : Int32) (v2 : Int32) (v3 : Int32) (v4 : Int32) (u : S) : Option (S) :=
nm (up u v0 0 v1) fun u1 =>
nm (up u1 v0 1 v2) fun u2 =>
nm (up u2 v0 2 v3) fun u3 =>
nm (up u3 v0 3 v4) fun u4 =>
nm (up u4 v0 4 0) fun u5 =>
(fX5_leave v0 u5).bind fun q6 =>
some q6
/-- TrayBox$Text.readLid(LTrayBox$Tray;)Z -/
def fX4_readLid (v1 : Nat) (u : S) : Option (Int32 × S) :=
(fX4_next u).bind fun q1 =>
if q1 = 108 then
(nm (up u 160 4 ((u.1 160 4) + 1)) fun u2 =>
nm (up u2 v1 4 1) fun u3 =>
some (1, u3))
else
(some (1, u))
/-- TrayBox$Text.readTurn(LTrayBox$Tray;)Z -/
def fX4_readTurn (v1 : Nat) (u : S) : Option (Int32 × S) :=
(fX4_next u).bind fun q1 =>
if q1 = 64 then
(nm (up u 160 4 ((u.1 160 4) + 1)) fun u2 =>
(fX4_next u2).bind fun q3 =>
(fX4_isDigit q3 u2).bind fun q4 =>
if q4 = 0 then
((fX4_fail 1 (u2.1 160 4) u2).bind fun q8 =>
gd (isb q8.1) <| some (q8.1, q8.2))
else
((fX4_next u2).bind fun q5 =>
nm (up u2 v1 3 (q5 - 48)) fun u6 =>
nm (up u6 160 4 ((u6.1 160 4) + 1)) fun u7 =>
some (1, u7)))
else
(some (1, u))
/-- TrayBox$Text.readTray()Z -/
def fX4_readTray  (u : S) : Option (Int32 × S) :=
if (u.1 (132 + 10) 4) < 12 then
((fX4_readNumber 10 u).bind fun q1 =>
if q1.1 = 0 then
(some (0, q1.2))
else
((fX4_readSign 120 q1.2).bind fun q2 =>
if q2.1 = 0 then
(some (0, q2.2))
else
((fX4_readNumber 10 q2.2).bind fun q3 =>
if q3.1 = 0 then
(some (0, q3.2))
else
((fX4_readSign 120 q3.2).bind fun q4 =>
if q4.1 = 0 then
(some (0, q4.2))
else
((fX4_readNumber 9 q4.2).bind fun q5 =>
if q5.1 = 0 then
(some (0, q5.2))
else
(gd (inb (q5.2.1 (132 + 10) 4) 12) <|
(fX5_become (12 * 10 + (q5.2.1 (132 + 10) 4).toNatClampNeg) (q1.2.1 160 5) (q3.2.1 160 5) (q5.2.1 160 5) 0 q5.2).bind fun q7 =>
(fX4_readLid (12 * 10 + (q5.2.1 (132 + 10) 4).toNatClampNeg) q7).bind fun q8 =>
if q8.1 = 0 then
(some (0, q8.2))
else
((fX4_readTurn (12 * 10 + (q5.2.1 (132 + 10) 4).toNatClampNeg) q8.2).bind fun q9 =>
if q9.1 = 0 then
(some (0, q9.2))
else
((fX4_readSign 59 q9.2).bind fun q10 =>
if q10.1 = 0 then
(some (0, q10.2))
else
(some (1, q10.2))))))))))
else
((fX4_next u).bind fun q11 =>
(fX4_isDigit q11 u).bind fun q12 =>
if q12 = 0 then
((fX4_fail 1 (u.1 160 4) u).bind fun q13 =>
gd (isb q13.1) <| some (q13.1, q13.2))
else
((fX4_fail 3 (u.1 160 4) u).bind fun q14 =>
gd (isb q14.1) <| some (q14.1, q14.2)))
/-- TrayBox$Text.read()I -/
def gX4_read_20  (a1 : Int32 × S) : Option ((Int32 × S) ⊕ (Int32 × S)) :=
if 12 < a1.1 then
(some (.inl (a1.1, a1.2)))
else
(if (a1.2.1 160 0) ≤ (a1.2.1 160 4) then
(some (.inl (a1.1, a1.2)))
else
(if (a1.2.1 160 1) = 0 then
((fX4_readTray a1.2).bind fun q104 =>
if q104.1 = 0 then
(some (.inr (a1.1 + 1, q104.2)))
else
(nm (up q104.2 (132 + 10) 4 ((q104.2.1 (132 + 10) 4) + 1)) fun u105 =>
some (.inr (a1.1 + 1, u105))))
else
(some (.inl (a1.1, a1.2)))))
def fX4_read  (u : S) : Option (Int32 × S) :=
nm (up u 160 1 0) fun u1 =>
nm (up u1 160 4 0) fun u2 =>
nm (up u2 (132 + 10) 4 0) fun u3 =>
(lp (gX4_read_20 ) FU (0, u3)).bind fun e4 =>
if (e4.2.1 160 1) = 0 then
(some (e4.2.1 (132 + 10) 4, e4.2))
else
(some ((-10) - (e4.2.1 160 4), e4.2))
/-- TrayBox$Tray.property(I)I -/
def fX5_property (v0 : Nat) (v1 : Int32) (u : S) : Option (Int32) :=
if v1 = 0 then
(some (u.1 v0 0))
else
(if v1 = 1 then
(some (u.1 v0 1))
else
(if v1 = 2 then
(some (u.1 v0 2))
else
(if v1 = 3 then
(some (u.1 v0 3))
else
(if v1 = 4 then
(some (u.1 v0 4))
else
(if v1 = 5 then
(if (u.1 v0 5) = 0 then
(some 0)
else
(some 1))
else
(if (u.1 v0 6) = 0 then
(some 0)
else
(some 1)))))))
/-- TrayBox.setBox(III)I -/
def fX6_setBox (v1 : Int32) (v2 : Int32) (v3 : Int32) (u : S) : Option (Int32 × S) :=
(fX6_isWithin v1 2 10 u).bind fun q1 =>
if q1 = 0 then
(some ((-1), u))
else
((fX6_isWithin v2 2 10 u).bind fun q2 =>
if q2 = 0 then
(some ((-1), u))
else
((fX6_isWithin v3 1 30 u).bind fun q3 =>
if q3 = 0 then
(some ((-1), u))
else
((fX0_inside 0 u).bind fun q4 =>
(fJ6_bitCount_0f7a4 q4 u).bind fun q5 =>
(fX2_record 0 u).bind fun q6 =>
(fX0_clear 0 q6).bind fun q7 =>
nm (up q7 (132 + 0) 0 v1) fun u8 =>
nm (up u8 (132 + 0) 1 v2) fun u9 =>
nm (up u9 (132 + 0) 2 v3) fun u10 =>
some (q5, u10))))
/-- TrayBox.setShare(I)I -/
def fX6_setShare (v1 : Int32) (u : S) : Option (Int32 × S) :=
(fX6_isWithin v1 0 100 u).bind fun q1 =>
if q1 = 0 then
(some ((-1), u))
else
((fX2_record 0 u).bind fun q2 =>
nm (up q2 (132 + 0) 3 v1) fun u3 =>
some (u.1 (132 + 0) 3, u3))
/-- TrayBox.type(I)I -/
def fX6_type (v1 : Int32) (u : S) : Option (Int32 × S) :=
(fX6_isWithin v1 32 126 u).bind fun q1 =>
if q1 = 0 then
(some ((-1), u))
else
(if (u.1 160 0) < 100 then
((fX4_append ((v1.toUInt32 % 65536).toInt32) u).bind fun q2 =>
some (q2.1 160 0, q2))
else
(some ((-3), u)))
/-- TrayBox.clearText()I -/
def fX6_clearText  (u : S) : Option (Int32 × S) :=
nm (up u 160 0 0) fun u1 =>
some (u.1 160 0, u1)
/-- TrayBox.load()I -/
def fX6_load  (u : S) : Option (Int32 × S) :=
(fX4_read u).bind fun q1 =>
if q1.1 < 0 then
(some (q1.1, q1.2))
else
((fX2_record 0 q1.2).bind fun q2 =>
(fX0_copyTrays 0 10 q2).bind fun q3 =>
some (q1.1, q3))
/-- TrayBox.faultKind()I -/
def fX6_faultKind  (u : S) : Option (Int32) :=
some (u.1 160 1)
/-- TrayBox.add(IIII)I -/
def fX6_add (v1 : Int32) (v2 : Int32) (v3 : Int32) (v4 : Int32) (u : S) : Option (Int32 × S) :=
(fX6_isWithin v1 1 10 u).bind fun q1 =>
if q1 = 0 then
(some ((-1), u))
else
((fX6_isWithin v2 1 10 u).bind fun q2 =>
if q2 = 0 then
(some ((-1), u))
else
((fX6_isWithin v3 1 9 u).bind fun q3 =>
if q3 = 0 then
(some ((-1), u))
else
((fX6_isWithin v4 0 9 u).bind fun q4 =>
if q4 = 0 then
(some ((-1), u))
else
(if (u.1 (132 + 0) 4) < 12 then
((fX2_record 0 u).bind fun q5 =>
gd (inb (q5.1 (132 + 0) 4) 12) <|
(fX5_become (12 * 0 + (q5.1 (132 + 0) 4).toNatClampNeg) v1 v2 v3 v4 q5).bind fun q7 =>
nm (up q7 (132 + 0) 4 ((q7.1 (132 + 0) 4) + 1)) fun u8 =>
some ((u8.1 (132 + 0) 4) - 1, u8))
else
(some ((-3), u))))))
/-- TrayBox.drop(I)I -/
def fX6_drop (v1 : Int32) (u : S) : Option (Int32 × S) :=
(fX0_has 0 v1 u).bind fun q1 =>
if q1 = 0 then
(some ((-1), u))
else
(gd (inb v1 12) <|
if (u.1 (12 * 0 + v1.toNatClampNeg) 5) = 0 then
((fX2_record 0 u).bind fun q3 =>
(fX0_remove 0 v1 q3).bind fun q4 =>
some (q4.1 (132 + 0) 4, q4))
else
(some ((-2), u)))
/-- TrayBox.setTray(III)I -/
def fX6_setTray (v1 : Int32) (v2 : Int32) (v3 : Int32) (u : S) : Option (Int32 × S) :=
(fX0_has 0 v1 u).bind fun q1 =>
if q1 = 0 then
(some ((-1), u))
else
((fX6_isWithin v2 0 1 u).bind fun q2 =>
if q2 = 0 then
(some ((-1), u))
else
(if v2 = 0 then
((fX6_isWithin v3 0 9 u).bind fun q17 =>
if q17 = 0 then
(some ((-1), u))
else
(gd (inb v1 12) <|
if v2 = 1 then
(if (u.1 (12 * 0 + v1.toNatClampNeg) 5) = 0 then
(if v2 = 0 then
((fX2_record 0 u).bind fun q28 =>
if v2 = 0 then
(nm (up q28 (12 * 0 + v1.toNatClampNeg) 3 v3) fun u30 =>
some (u.1 (12 * 0 + v1.toNatClampNeg) 3, u30))
else
(nm (up q28 (12 * 0 + v1.toNatClampNeg) 4 v3) fun u29 =>
some (u.1 (12 * 0 + v1.toNatClampNeg) 3, u29)))
else
((fX2_record 0 u).bind fun q25 =>
if v2 = 0 then
(nm (up q25 (12 * 0 + v1.toNatClampNeg) 3 v3) fun u27 =>
some (u.1 (12 * 0 + v1.toNatClampNeg) 4, u27))
else
(nm (up q25 (12 * 0 + v1.toNatClampNeg) 4 v3) fun u26 =>
some (u.1 (12 * 0 + v1.toNatClampNeg) 4, u26))))
else
(some ((-2), u)))
else
(if v2 = 0 then
((fX2_record 0 u).bind fun q22 =>
if v2 = 0 then
(nm (up q22 (12 * 0 + v1.toNatClampNeg) 3 v3) fun u24 =>
some (u.1 (12 * 0 + v1.toNatClampNeg) 3, u24))
else
(nm (up q22 (12 * 0 + v1.toNatClampNeg) 4 v3) fun u23 =>
some (u.1 (12 * 0 + v1.toNatClampNeg) 3, u23)))
else
((fX2_record 0 u).bind fun q19 =>
if v2 = 0 then
(nm (up q19 (12 * 0 + v1.toNatClampNeg) 3 v3) fun u21 =>
some (u.1 (12 * 0 + v1.toNatClampNeg) 4, u21))
else
(nm (up q19 (12 * 0 + v1.toNatClampNeg) 4 v3) fun u20 =>
some (u.1 (12 * 0 + v1.toNatClampNeg) 4, u20))))))
else
((fX6_isWithin v3 0 1 u).bind fun q3 =>
if q3 = 0 then
(some ((-1), u))
else
(gd (inb v1 12) <|
if v2 = 1 then
(if (u.1 (12 * 0 + v1.toNatClampNeg) 5) = 0 then
(if v2 = 0 then
((fX2_record 0 u).bind fun q14 =>
if v2 = 0 then
(nm (up q14 (12 * 0 + v1.toNatClampNeg) 3 v3) fun u16 =>
some (u.1 (12 * 0 + v1.toNatClampNeg) 3, u16))
else
(nm (up q14 (12 * 0 + v1.toNatClampNeg) 4 v3) fun u15 =>
some (u.1 (12 * 0 + v1.toNatClampNeg) 3, u15)))
else
((fX2_record 0 u).bind fun q11 =>
if v2 = 0 then
(nm (up q11 (12 * 0 + v1.toNatClampNeg) 3 v3) fun u13 =>
some (u.1 (12 * 0 + v1.toNatClampNeg) 4, u13))
else
(nm (up q11 (12 * 0 + v1.toNatClampNeg) 4 v3) fun u12 =>
some (u.1 (12 * 0 + v1.toNatClampNeg) 4, u12))))
else
(some ((-2), u)))
else
(if v2 = 0 then
((fX2_record 0 u).bind fun q8 =>
if v2 = 0 then
(nm (up q8 (12 * 0 + v1.toNatClampNeg) 3 v3) fun u10 =>
some (u.1 (12 * 0 + v1.toNatClampNeg) 3, u10))
else
(nm (up q8 (12 * 0 + v1.toNatClampNeg) 4 v3) fun u9 =>
some (u.1 (12 * 0 + v1.toNatClampNeg) 3, u9)))
else
((fX2_record 0 u).bind fun q5 =>
if v2 = 0 then
(nm (up q5 (12 * 0 + v1.toNatClampNeg) 3 v3) fun u7 =>
some (u.1 (12 * 0 + v1.toNatClampNeg) 4, u7))
else
(nm (up q5 (12 * 0 + v1.toNatClampNeg) 4 v3) fun u6 =>
some (u.1 (12 * 0 + v1.toNatClampNeg) 4, u6))))))))
/-- TrayBox.letDown(IIIZ)I -/
def fX6_letDown (v1 : Int32) (v2 : Int32) (v3 : Int32) (v4 : Int32) (u : S) : Option (Int32 × S) :=
(fX0_has 0 v1 u).bind fun q1 =>
if q1 = 0 then
(some ((-1), u))
else
(gd (inb v1 12) <|
(fX0_encloses 0 (12 * 0 + v1.toNatClampNeg) v2 v3 v4 u).bind fun q3 =>
if q3 = 0 then
(some ((-1), u))
else
(gd (inb v1 12) <|
if (u.1 (12 * 0 + v1.toNatClampNeg) 5) = 0 then
((fX1_survey 0 0 u).bind fun q5 =>
(fX0_highestFloor 0 (12 * 0 + v1.toNatClampNeg) q5).bind fun q6 =>
(fX1_holds 0 0 (12 * 0 + v1.toNatClampNeg) v2 v3 v4 q6 q5).bind fun q7 =>
if q7.1 = 0 then
(some ((-3), q7.2))
else
((fX2_record 0 q7.2).bind fun q8 =>
(fX5_lie (12 * 0 + v1.toNatClampNeg) v2 v3 v4 (q8.1 (154 + 0) 1) (q8.1 (154 + 0) 2) q8).bind fun q9 =>
some (q9.1 (12 * 0 + v1.toNatClampNeg) 11, q9)))
else
(some ((-2), u))))
/-- TrayBox.takeOut(I)I -/
def fX6_takeOut (v1 : Int32) (u : S) : Option (Int32 × S) :=
(fX0_has 0 v1 u).bind fun q1 =>
if q1 = 0 then
(some ((-1), u))
else
(gd (inb v1 12) <|
if (u.1 (12 * 0 + v1.toNatClampNeg) 5) = 0 then
(some ((-2), u))
else
((fX0_isFree 0 v1 u).bind fun q3 =>
if q3 = 0 then
(some ((-2), u))
else
((fX2_record 0 u).bind fun q4 =>
(fX5_leave (12 * 0 + v1.toNatClampNeg) q4).bind fun q5 =>
some (q5.1 (12 * 0 + v1.toNatClampNeg) 11, q5))))
/-- TrayBox.empty()I -/
def fX6_empty  (u : S) : Option (Int32 × S) :=
(fX0_inside 0 u).bind fun q1 =>
(fJ6_bitCount_0f7a4 q1 u).bind fun q2 =>
(fX2_record 0 u).bind fun q3 =>
(fX0_clear 0 q3).bind fun q4 =>
some (q2, q4)
/-- TrayBox.placedProperty(II)I -/
def fX6_placedProperty (v1 : Int32) (v2 : Int32) (u : S) : Option (Int32) :=
gd (inb v1 12) <|
if v2 = 7 then
(some (u.1 (12 * 0 + v1.toNatClampNeg) 7))
else
(if v2 = 8 then
(some (u.1 (12 * 0 + v1.toNatClampNeg) 8))
else
(if v2 = 9 then
(some (u.1 (12 * 0 + v1.toNatClampNeg) 11))
else
(if v2 = 10 then
(some (u.1 (12 * 0 + v1.toNatClampNeg) 12))
else
(if v2 = 11 then
((fX0_inside 0 u).bind fun q2 =>
(fX0_above 0 v1 q2 u).bind fun q3 =>
(fJ6_bitCount_0f7a4 q3 u).bind fun q4 =>
some q4)
else
(if v2 = 12 then
((fX0_faultOf 0 v1 u).bind fun q5 =>
some q5)
else
(if v2 = 13 then
((fX0_isFree 0 v1 u).bind fun q6 =>
if q6 = 0 then
(some 0)
else
(some 1))
else
(if v2 = 14 then
((fX0_inside 0 u).bind fun q7 =>
(fX0_above 0 v1 q7 u).bind fun q8 =>
some q8)
else
(some (u.1 (12 * 0 + v1.toNatClampNeg) 13)))))))))
/-- TrayBox.tray(II)I -/
def fX6_tray (v1 : Int32) (v2 : Int32) (u : S) : Option (Int32) :=
(fX0_has 0 v1 u).bind fun q1 =>
if q1 = 0 then
(some (-1))
else
((fX6_isWithin v2 0 15 u).bind fun q2 =>
if q2 = 0 then
(some (-1))
else
(if 7 ≤ v2 then
(gd (inb v1 12) <|
if (u.1 (12 * 0 + v1.toNatClampNeg) 5) = 0 then
(some (-9))
else
((fX6_placedProperty v1 v2 u).bind fun q4 =>
some q4))
else
(gd (inb v1 12) <|
(fX5_property (12 * 0 + v1.toNatClampNeg) v2 u).bind fun q6 =>
some q6)))
/-- TrayBox.seen(IIZ)I -/
def fX6_seen (v1 : Int32) (v2 : Int32) (v3 : Int32) (u : S) : Option (Int32) :=
(fX6_isWithin v1 0 ((u.1 (132 + 0) 0) - 1) u).bind fun q1 =>
if q1 = 0 then
(some (-1))
else
((fX6_isWithin v2 0 ((u.1 (132 + 0) 1) - 1) u).bind fun q2 =>
if q2 = 0 then
(some (-1))
else
((fX0_uppermost 0 v1 v2 u).bind fun q3 =>
(fX0_has 0 q3 u).bind fun q4 =>
if q4 = 0 then
(if v3 = 0 then
(some (-9))
else
(some 0))
else
(if v3 = 0 then
(some q3)
else
(gd (inb q3 12) <|
some (u.1 (12 * 0 + q3.toNatClampNeg) 12)))))
/-- TrayBox.place(II)I -/
def fX6_place (v1 : Int32) (v2 : Int32) (u : S) : Option (Int32 × S) :=
(fX0_has 0 v1 u).bind fun q1 =>
if q1 = 0 then
(some ((-1), u))
else
((fX6_isWithin v2 0 3 u).bind fun q2 =>
if q2 = 0 then
(some ((-1), u))
else
(gd (inb v1 12) <|
if (u.1 (12 * 0 + v1.toNatClampNeg) 5) = 0 then
((fX1_survey 0 0 u).bind fun q4 =>
gd (inb v1 12) <|
(fX1_search 0 0 (12 * 0 + v1.toNatClampNeg) 1 q4).bind fun q6 =>
if (q6.1 (154 + 0) 3) = 0 then
(some ((-9), q6))
else
(if v2 = 0 then
(some (q6.1 (154 + 0) 4, q6))
else
(if v2 = 1 then
(some (q6.1 (154 + 0) 5, q6))
else
(if v2 = 2 then
(if (q6.1 (154 + 0) 6) = 0 then
(some (0, q6))
else
(some (1, q6)))
else
(gd (inb v1 12) <|
(fX5_tall (12 * 0 + v1.toNatClampNeg) q6).bind fun q8 =>
some ((q6.1 (154 + 0) 7) + q8, q6))))))
else
(some ((-2), u))))
/-- TrayBox.places(I)I -/
def fX6_places (v1 : Int32) (u : S) : Option (Int32 × S) :=
(fX0_has 0 v1 u).bind fun q1 =>
if q1 = 0 then
(some ((-1), u))
else
(gd (inb v1 12) <|
if (u.1 (12 * 0 + v1.toNatClampNeg) 5) = 0 then
((fX1_survey 0 0 u).bind fun q3 =>
gd (inb v1 12) <|
(fX1_search 0 0 (12 * 0 + v1.toNatClampNeg) 0 q3).bind fun q5 =>
some (q5.1 (154 + 0) 3, q5))
else
(some ((-2), u)))
/-- TrayBox.takeOverPacked()I -/
def fX6_takeOverPacked  (u : S) : Option (Int32 × S) :=
(fX2_record 0 u).bind fun q1 =>
(fX0_copyTrays 0 9 q1).bind fun q2 =>
gd (inb 0 4) <|
some (q2.1 (163 + 1) (0 : Int32).toNatClampNeg, q2)
/-- TrayBox.pack()I -/
def fX6_pack  (u : S) : Option (Int32 × S) :=
(fX3_packUsually 0 u).bind fun q1 =>
(fX6_takeOverPacked q1).bind fun q2 =>
some (q2.1, q2.2)
/-- TrayBox.packBest()I -/
def fX6_packBest  (u : S) : Option (Int32 × S) :=
if (u.1 (132 + 0) 4) ≤ 5 then
((fX3_packByBest 0 u).bind fun q1 =>
(fX6_takeOverPacked q1).bind fun q2 =>
some (q2.1, q2.2))
else
(some ((-2), u))
/-- TrayBox.ifPacked(ZI)I -/
def fX6_ifPacked (v1 : Int32) (v2 : Int32) (u : S) : Option (Int32 × S) :=
(fX6_isWithin v2 0 3 u).bind fun q1 =>
if q1 = 0 then
(if 10 ≤ v2 then
(if v1 = 0 then
(if v1 = 0 then
((fX3_packUsually 0 u).bind fun q10 =>
if 4 ≤ v2 then
((fX0_has 0 (v2 - 10) q10).bind fun q11 =>
if q11 = 0 then
(some ((-9), q10))
else
(gd (inb (v2 - 10) 12) <|
some (q10.1 (163 + 0) (v2 - 10).toNatClampNeg, q10)))
else
(gd (inb v2 4) <|
some (q10.1 (163 + 1) v2.toNatClampNeg, q10)))
else
((fX3_packByBest 0 u).bind fun q12 =>
if 4 ≤ v2 then
((fX0_has 0 (v2 - 10) q12).bind fun q13 =>
if q13 = 0 then
(some ((-9), q12))
else
(gd (inb (v2 - 10) 12) <|
some (q12.1 (163 + 0) (v2 - 10).toNatClampNeg, q12)))
else
(gd (inb v2 4) <|
some (q12.1 (163 + 1) v2.toNatClampNeg, q12))))
else
(if (u.1 (132 + 0) 4) ≤ 5 then
(if v1 = 0 then
((fX3_packUsually 0 u).bind fun q14 =>
if 4 ≤ v2 then
((fX0_has 0 (v2 - 10) q14).bind fun q15 =>
if q15 = 0 then
(some ((-9), q14))
else
(gd (inb (v2 - 10) 12) <|
some (q14.1 (163 + 0) (v2 - 10).toNatClampNeg, q14)))
else
(gd (inb v2 4) <|
some (q14.1 (163 + 1) v2.toNatClampNeg, q14)))
else
((fX3_packByBest 0 u).bind fun q16 =>
if 4 ≤ v2 then
((fX0_has 0 (v2 - 10) q16).bind fun q17 =>
if q17 = 0 then
(some ((-9), q16))
else
(gd (inb (v2 - 10) 12) <|
some (q16.1 (163 + 0) (v2 - 10).toNatClampNeg, q16)))
else
(gd (inb v2 4) <|
some (q16.1 (163 + 1) v2.toNatClampNeg, q16))))
else
(some ((-2), u))))
else
(some ((-1), u)))
else
(if v1 = 0 then
(if v1 = 0 then
((fX3_packUsually 0 u).bind fun q2 =>
if 4 ≤ v2 then
((fX0_has 0 (v2 - 10) q2).bind fun q3 =>
if q3 = 0 then
(some ((-9), q2))
else
(gd (inb (v2 - 10) 12) <|
some (q2.1 (163 + 0) (v2 - 10).toNatClampNeg, q2)))
else
(gd (inb v2 4) <|
some (q2.1 (163 + 1) v2.toNatClampNeg, q2)))
else
((fX3_packByBest 0 u).bind fun q4 =>
if 4 ≤ v2 then
((fX0_has 0 (v2 - 10) q4).bind fun q5 =>
if q5 = 0 then
(some ((-9), q4))
else
(gd (inb (v2 - 10) 12) <|
some (q4.1 (163 + 0) (v2 - 10).toNatClampNeg, q4)))
else
(gd (inb v2 4) <|
some (q4.1 (163 + 1) v2.toNatClampNeg, q4))))
else
(if (u.1 (132 + 0) 4) ≤ 5 then
(if v1 = 0 then
((fX3_packUsually 0 u).bind fun q6 =>
if 4 ≤ v2 then
((fX0_has 0 (v2 - 10) q6).bind fun q7 =>
if q7 = 0 then
(some ((-9), q6))
else
(gd (inb (v2 - 10) 12) <|
some (q6.1 (163 + 0) (v2 - 10).toNatClampNeg, q6)))
else
(gd (inb v2 4) <|
some (q6.1 (163 + 1) v2.toNatClampNeg, q6)))
else
((fX3_packByBest 0 u).bind fun q8 =>
if 4 ≤ v2 then
((fX0_has 0 (v2 - 10) q8).bind fun q9 =>
if q9 = 0 then
(some ((-9), q8))
else
(gd (inb (v2 - 10) 12) <|
some (q8.1 (163 + 0) (v2 - 10).toNatClampNeg, q8)))
else
(gd (inb v2 4) <|
some (q8.1 (163 + 1) v2.toNatClampNeg, q8))))
else
(some ((-2), u))))
/-- TrayBox.play()I -/
def fX6_play  (u : S) : Option (Int32 × S) :=
(fX0_playedLifts 0 (-9) u).bind fun q1 =>
(fX2_record 0 u).bind fun q2 =>
(fX0_clear 0 q2).bind fun q3 =>
some (q1, q3)
/-- TrayBox.liftsTo(I)I -/
def fX6_liftsTo (v1 : Int32) (u : S) : Option (Int32) :=
(fX0_has 0 v1 u).bind fun q1 =>
if q1 = 0 then
(some (-1))
else
(gd (inb v1 12) <|
if (u.1 (12 * 0 + v1.toNatClampNeg) 5) = 0 then
(some (-2))
else
((fX0_playedLifts 0 v1 u).bind fun q3 =>
some q3))
/-- TrayBox.undo()I -/
def fX6_undo  (u : S) : Option (Int32 × S) :=
if (u.1 158 0) = 0 then
(some ((-2), u))
else
((fX2_restore 0 u).bind fun q1 =>
some (q1.1 158 0, q1))
/-- TrayBox.count(I)I -/
def fX6_count (v1 : Int32) (u : S) : Option (Int32) :=
if v1 = 0 then
(some (u.1 (132 + 0) 0))
else
(if v1 = 1 then
(some (u.1 (132 + 0) 1))
else
(if v1 = 2 then
(some (u.1 (132 + 0) 2))
else
(if v1 = 3 then
(some (u.1 (132 + 0) 3))
else
(if v1 = 4 then
(some (u.1 (132 + 0) 4))
else
(if v1 = 5 then
((fX0_inside 0 u).bind fun q1 =>
(fJ6_bitCount_0f7a4 q1 u).bind fun q2 =>
some q2)
else
(if v1 = 6 then
((fX0_freeTrays 0 u).bind fun q3 =>
some q3)
else
(if v1 = 7 then
((fX0_filledHeight 0 u).bind fun q4 =>
some q4)
else
(if v1 = 8 then
((fX0_air 0 u).bind fun q5 =>
some q5)
else
(if v1 = 9 then
((fX0_faults 0 u).bind fun q6 =>
some q6)
else
(if v1 = 10 then
((fX0_lifts 0 u).bind fun q7 =>
some q7)
else
(if v1 = 11 then
(some (u.1 160 0))
else
(if v1 = 12 then
(some (u.1 158 0))
else
(some (-1))))))))))))))
/-- TrayBox.digest()J -/
def gX6_digest_6  (u : S) (a1 : Int64 × Int32) : Option ((Int64 × Int32) ⊕ (Int64 × Int32)) :=
if 12 < a1.2 then
(some (.inl (a1.1, a1.2)))
else
((fX6_count a1.2 u).bind fun q101 =>
some (.inr ((31 * a1.1) + q101.toInt64, a1.2 + 1)))
def gX6_digest_47 (v3 : Int32) (u : S) (a2 : Int64 × Int32) : Option ((Int64 × Int32) ⊕ (Int64 × Int32)) :=
if 15 < a2.2 then
(some (.inl (a2.1, a2.2)))
else
((fX6_tray v3 a2.2 u).bind fun q203 =>
some (.inr ((31 * a2.1) + q203.toInt64, a2.2 + 1)))
def gX6_digest_33  (a1 : Int64 × Int32 × S) : Option ((Int64 × Int32 × S) ⊕ (Int64 × Int32 × S)) :=
if (a1.2.2.1 (132 + 0) 4) ≤ a1.2.1 then
(some (.inl (a1.1, a1.2.1, a1.2.2)))
else
((lp (gX6_digest_47 a1.2.1 a1.2.2) FU (a1.1, 0)).bind fun e103 =>
(fX6_place a1.2.1 0 a1.2.2).bind fun q105 =>
(fX6_place a1.2.1 3 q105.2).bind fun q106 =>
some (.inr ((31 * ((31 * e103.1) + q105.1.toInt64)) + q106.1.toInt64, a1.2.1 + 1, q106.2)))
def gX6_digest_125 (v3 : Int32) (u : S) (a2 : Int64 × Int32) : Option ((Int64 × Int32) ⊕ (Int64 × Int32)) :=
if (u.1 (132 + 0) 1) ≤ a2.2 then
(some (.inl (a2.1, a2.2)))
else
((fX6_seen v3 a2.2 0 u).bind fun q208 =>
(fX6_seen v3 a2.2 1 u).bind fun q209 =>
some (.inr ((31 * ((31 * a2.1) + q208.toInt64)) + q209.toInt64, a2.2 + 1)))
def gX6_digest_111  (u : S) (a1 : Int64 × Int32) : Option ((Int64 × Int32) ⊕ (Int64 × Int32)) :=
if (u.1 (132 + 0) 0) ≤ a1.2 then
(some (.inl (a1.1, a1.2)))
else
((lp (gX6_digest_125 a1.2 u) FU (a1.1, 0)).bind fun e108 =>
some (.inr (e108.1, a1.2 + 1)))
def gX6_digest_194  (u : S) (a1 : Int64 × Int32) : Option ((Int64 × Int32) ⊕ (Int64 × Int32)) :=
if 4 ≤ a1.2 then
(some (.inl (a1.1, a1.2)))
else
(gd (inb a1.2 4) <|
some (.inr ((31 * a1.1) + ((u.1 (163 + 1) a1.2.toNatClampNeg).toInt64), a1.2 + 1)))
def gX6_digest_224  (u : S) (a1 : Int64 × Int32) : Option ((Int64 × Int32) ⊕ (Int64 × Int32)) :=
if (u.1 (132 + 0) 4) ≤ a1.2 then
(some (.inl (a1.1, a1.2)))
else
(gd (inb a1.2 12) <|
if (u.1 (12 * 0 + a1.2.toNatClampNeg) 5) = 0 then
(some (.inr (a1.1, a1.2 + 1)))
else
((fX6_liftsTo a1.2 u).bind fun q115 =>
some (.inr ((31 * a1.1) + q115.toInt64, a1.2 + 1))))
def fX6_digest  (u : S) : Option (Int64 × S) :=
(lp (gX6_digest_6  u) FU (43160, 0)).bind fun e1 =>
(lp (gX6_digest_33 ) FU (e1.1, 0, u)).bind fun e3 =>
(lp (gX6_digest_111  e3.2.2) FU (e3.1, 0)).bind fun e8 =>
(fX3_packUsually 0 e3.2.2).bind fun q12 =>
(lp (gX6_digest_194  q12) FU (e8.1, 0)).bind fun e13 =>
(lp (gX6_digest_224  q12) FU (e13.1, 0)).bind fun e14 =>
some (e14.1, q12)
/-- TrayBoxModel.in(III)Z -/
def fX7_in (v0 : Int32) (v1 : Int32) (v2 : Int32) (u : S) : Option (Int32) :=
if v0 < v1 then
(some 0)
else
(if v2 < v0 then
(some 0)
else
(some 1))
/-- TrayBoxModel.copies(II)V -/
def gX7_copies_2 (v1 : Int32) (v2 : Int32) (a1 : Int32 × S) : Option ((Int32 × S) ⊕ (Int32 × S)) :=
if 125 ≤ a1.1 then
(some (.inl (a1.1, a1.2)))
else
(gd (inb ((125 * v1) + a1.1) 1375) <|
gd (inb ((125 * v2) + a1.1) 1375) <|
nm (up a1.2 1 ((125 * v2) + a1.1).toNatClampNeg (a1.2.1 1 ((125 * v1) + a1.1).toNatClampNeg)) fun u101 =>
some (.inr (a1.1 + 1, u101)))
def fX7_copies (v1 : Int32) (v2 : Int32) (u : S) : Option (S) :=
(lp (gX7_copies_2 v1 v2) FU (0, u)).bind fun e1 =>
some e1.2
/-- TrayBoxModel.records()V -/
def gX7_records_11  (a1 : Int32 × S) : Option ((Int32 × S) ⊕ (Int32 × S)) :=
if 8 ≤ a1.1 then
(some (.inl (a1.1, a1.2)))
else
((fX7_copies (a1.1 + 1) a1.1 a1.2).bind fun q103 =>
some (.inr (a1.1 + 1, q103)))
def fX7_records  (u : S) : Option (S) :=
if (u.1 0 1) = 8 then
((lp (gX7_records_11 ) FU (1, u)).bind fun e3 =>
nm (up e3.2 0 1 ((e3.2.1 0 1) - 1)) fun u5 =>
nm (up u5 0 1 ((u5.1 0 1) + 1)) fun u6 =>
(fX7_copies 0 (u6.1 0 1) u6).bind fun q7 =>
some q7)
else
(nm (up u 0 1 ((u.1 0 1) + 1)) fun u1 =>
(fX7_copies 0 (u1.1 0 1) u1).bind fun q2 =>
some q2)
/-- TrayBoxModel.undo()I -/
def fX7_undo  (u : S) : Option (Int32 × S) :=
if (u.1 0 1) = 0 then
(some ((-2), u))
else
((fX7_copies (u.1 0 1) 0 u).bind fun q1 =>
nm (up q1 0 1 ((q1.1 0 1) - 1)) fun u2 =>
some (u2.1 0 1, u2))
/-- TrayBoxModel.of(II)I -/
def fX7_of (v1 : Int32) (v2 : Int32) (u : S) : Option (Int32) :=
gd (inb ((5 + (10 * v1)) + v2) 1375) <|
some (u.1 1 ((5 + (10 * v1)) + v2).toNatClampNeg)
/-- TrayBoxModel.sets(III)V -/
def fX7_sets (v1 : Int32) (v2 : Int32) (v3 : Int32) (u : S) : Option (S) :=
gd (inb ((5 + (10 * v1)) + v2) 1375) <|
nm (up u 1 ((5 + (10 * v1)) + v2).toNatClampNeg v3) fun u1 =>
some u1
/-- TrayBoxModel.trays()I -/
def fX7_trays  (u : S) : Option (Int32) :=
gd (inb 4 1375) <|
some (u.1 1 (4 : Int32).toNatClampNeg)
/-- TrayBoxModel.isTray(I)Z -/
def fX7_isTray (v1 : Int32) (u : S) : Option (Int32) :=
(fX7_trays u).bind fun q1 =>
(fX7_in v1 0 (q1 - 1) u).bind fun q2 =>
gd (isb q2) <| some q2
/-- TrayBoxModel.isIn(I)Z -/
def fX7_isIn (v1 : Int32) (u : S) : Option (Int32) :=
(fX7_of v1 5 u).bind fun q1 =>
if q1 = 1 then
(some 1)
else
(some 0)
/-- TrayBoxModel.high(I)I -/
def fX7_high (v1 : Int32) (u : S) : Option (Int32) :=
(fX7_of v1 2 u).bind fun q1 =>
(fX7_of v1 4 u).bind fun q2 =>
some (q1 + q2)
/-- TrayBoxModel.top(I)I -/
def fX7_top (v1 : Int32) (u : S) : Option (Int32) :=
(fX7_of v1 9 u).bind fun q1 =>
(fX7_high v1 u).bind fun q2 =>
some (q1 + q2)
/-- TrayBoxModel.along(IZZ)I -/
def fX7_along (v1 : Int32) (v2 : Int32) (v3 : Int32) (u : S) : Option (Int32) :=
if v2 = v3 then
((fX7_of v1 0 u).bind fun q1 =>
some q1)
else
((fX7_of v1 1 u).bind fun q2 =>
some q2)
/-- TrayBoxModel.spans(IZ)I -/
def fX7_spans (v1 : Int32) (v2 : Int32) (u : S) : Option (Int32) :=
(fX7_of v1 6 u).bind fun q1 =>
if q1 = 1 then
((fX7_along v1 v2 1 u).bind fun q3 =>
some q3)
else
((fX7_along v1 v2 0 u).bind fun q2 =>
some q2)
/-- TrayBoxModel.covers(III)Z -/
def fX7_covers (v1 : Int32) (v2 : Int32) (v3 : Int32) (u : S) : Option (Int32) :=
(fX7_of v1 7 u).bind fun q1 =>
(fX7_of v1 7 u).bind fun q2 =>
(fX7_spans v1 0 u).bind fun q3 =>
(fX7_in v2 q1 ((q2 + q3) - 1) u).bind fun q4 =>
if q4 = 0 then
(some 0)
else
((fX7_of v1 8 u).bind fun q5 =>
(fX7_of v1 8 u).bind fun q6 =>
(fX7_spans v1 1 u).bind fun q7 =>
(fX7_in v3 q5 ((q6 + q7) - 1) u).bind fun q8 =>
if q8 = 0 then
(some 0)
else
(some 1))
/-- TrayBoxModel.leaves(I)V -/
def gX7_leaves_2 (v1 : Int32) (a1 : Int32 × S) : Option ((Int32 × S) ⊕ (Int32 × S)) :=
if 10 ≤ a1.1 then
(some (.inl (a1.1, a1.2)))
else
((fX7_sets v1 a1.1 0 a1.2).bind fun q101 =>
some (.inr (a1.1 + 1, q101)))
def fX7_leaves (v1 : Int32) (u : S) : Option (S) :=
(lp (gX7_leaves_2 v1) FU (5, u)).bind fun e1 =>
some e1.2
/-- TrayBoxModel.inBox()I -/
def gX7_inBox_4  (u : S) (a1 : Int32 × Int32) : Option ((Int32 × Int32) ⊕ (Int32 × Int32)) :=
(fX7_trays u).bind fun q101 =>
if q101 ≤ a1.2 then
(some (.inl (a1.1, a1.2)))
else
((fX7_of a1.2 5 u).bind fun q102 =>
some (.inr (a1.1 + q102, a1.2 + 1)))
def fX7_inBox  (u : S) : Option (Int32) :=
(lp (gX7_inBox_4  u) FU (0, 0)).bind fun e1 =>
some e1.1
/-- TrayBoxModel.empties()V -/
def gX7_empties_2  (a1 : Int32 × S) : Option ((Int32 × S) ⊕ (Int32 × S)) :=
(fX7_trays a1.2).bind fun q101 =>
if q101 ≤ a1.1 then
(some (.inl (a1.1, a1.2)))
else
((fX7_leaves a1.1 a1.2).bind fun q102 =>
some (.inr (a1.1 + 1, q102)))
def fX7_empties  (u : S) : Option (S) :=
(lp (gX7_empties_2 ) FU (0, u)).bind fun e1 =>
some e1.2
/-- TrayBoxModel.laysTops()V -/
def gX7_laysTops_2  (a1 : Int32 × S) : Option ((Int32 × S) ⊕ (Int32 × S)) :=
if 100 ≤ a1.1 then
(some (.inl (a1.1, a1.2)))
else
(gd (inb a1.1 100) <|
nm (up a1.2 2 a1.1.toNatClampNeg 0) fun u101 =>
some (.inr (a1.1 + 1, u101)))
def gX7_laysTops_33 (v1 : Int32) (a2 : Int32 × S) : Option ((Int32 × S) ⊕ (Int32 × S)) :=
if 100 ≤ a2.1 then
(some (.inl (a2.1, a2.2)))
else
((fX7_isIn v1 a2.2).bind fun q204 =>
if q204 = 0 then
(some (.inl (a2.1, a2.2)))
else
((fX7_covers v1 (a2.1 / 10) (a2.1 % 10) a2.2).bind fun q205 =>
if q205 = 0 then
(gd (inb a2.1 100) <|
gd (inb a2.1 100) <|
nm (up a2.2 2 a2.1.toNatClampNeg (a2.2.1 2 a2.1.toNatClampNeg)) fun u206 =>
some (.inr (a2.1 + 1, u206)))
else
((fX7_top v1 a2.2).bind fun q207 =>
gd (inb a2.1 100) <|
if q207 ≤ (a2.2.1 2 a2.1.toNatClampNeg) then
(gd (inb a2.1 100) <|
gd (inb a2.1 100) <|
nm (up a2.2 2 a2.1.toNatClampNeg (a2.2.1 2 a2.1.toNatClampNeg)) fun u208 =>
some (.inr (a2.1 + 1, u208)))
else
((fX7_top v1 a2.2).bind fun q209 =>
gd (inb a2.1 100) <|
nm (up a2.2 2 a2.1.toNatClampNeg q209) fun u210 =>
some (.inr (a2.1 + 1, u210))))))
def gX7_laysTops_23  (a1 : Int32 × S) : Option ((Int32 × S) ⊕ (Int32 × S)) :=
(fX7_trays a1.2).bind fun q103 =>
if q103 ≤ a1.1 then
(some (.inl (a1.1, a1.2)))
else
((lp (gX7_laysTops_33 a1.1) FU (0, a1.2)).bind fun e104 =>
some (.inr (a1.1 + 1, e104.2)))
def fX7_laysTops  (u : S) : Option (S) :=
(lp (gX7_laysTops_2 ) FU (0, u)).bind fun e1 =>
(lp (gX7_laysTops_23 ) FU (0, e1.2)).bind fun e3 =>
some e3.2
/-- TrayBoxModel.isInside(IIIZ)Z -/
def fX7_isInside (v1 : Int32) (v2 : Int32) (v3 : Int32) (v4 : Int32) (u : S) : Option (Int32) :=
if v2 < 0 then
(some 0)
else
(if v3 < 0 then
(some 0)
else
(gd (inb 0 1375) <|
(fX7_along v1 0 v4 u).bind fun q1 =>
if ((u.1 1 (0 : Int32).toNatClampNeg) - q1) < v2 then
(some 0)
else
(gd (inb 1 1375) <|
(fX7_along v1 1 v4 u).bind fun q2 =>
if ((u.1 1 (1 : Int32).toNatClampNeg) - q2) < v3 then
(some 0)
else
(some 1))))
/-- TrayBoxModel.looksAt(IIIZ)V -/
def gX7_looksAt_31 (v1 : Int32) (v3 : Int32) (v4 : Int32) (v5 : Int32) (a2 : Int32 × S) : Option ((Int32 × S) ⊕ (Int32 × S)) :=
(fX7_along v1 1 v4 a2.2).bind fun q204 =>
if (v3 + q204) ≤ a2.1 then
(some (.inl (a2.1, a2.2)))
else
(gd (inb ((10 * v5) + a2.1) 100) <|
if (a2.2.1 2 ((10 * v5) + a2.1).toNatClampNeg) ≤ (a2.2.1 0 3) then
(nm (up a2.2 0 4 (a2.2.1 0 4)) fun u205 =>
if (a2.2.1 2 ((10 * v5) + a2.1).toNatClampNeg) ≤ (u205.1 0 3) then
(nm (up u205 0 3 (u205.1 0 3)) fun u206 =>
if (a2.2.1 2 ((10 * v5) + a2.1).toNatClampNeg) = (u206.1 0 3) then
(nm (up u206 0 4 ((u206.1 0 4) + 1)) fun u208 =>
some (.inr (a2.1 + 1, u208)))
else
(nm (up u206 0 4 ((u206.1 0 4) + 0)) fun u207 =>
some (.inr (a2.1 + 1, u207))))
else
(nm (up u205 0 3 (a2.2.1 2 ((10 * v5) + a2.1).toNatClampNeg)) fun u209 =>
if (a2.2.1 2 ((10 * v5) + a2.1).toNatClampNeg) = (u209.1 0 3) then
(nm (up u209 0 4 ((u209.1 0 4) + 1)) fun u211 =>
some (.inr (a2.1 + 1, u211)))
else
(nm (up u209 0 4 ((u209.1 0 4) + 0)) fun u210 =>
some (.inr (a2.1 + 1, u210)))))
else
(nm (up a2.2 0 4 0) fun u212 =>
if (a2.2.1 2 ((10 * v5) + a2.1).toNatClampNeg) ≤ (u212.1 0 3) then
(nm (up u212 0 3 (u212.1 0 3)) fun u213 =>
if (a2.2.1 2 ((10 * v5) + a2.1).toNatClampNeg) = (u213.1 0 3) then
(nm (up u213 0 4 ((u213.1 0 4) + 1)) fun u215 =>
some (.inr (a2.1 + 1, u215)))
else
(nm (up u213 0 4 ((u213.1 0 4) + 0)) fun u214 =>
some (.inr (a2.1 + 1, u214))))
else
(nm (up u212 0 3 (a2.2.1 2 ((10 * v5) + a2.1).toNatClampNeg)) fun u216 =>
if (a2.2.1 2 ((10 * v5) + a2.1).toNatClampNeg) = (u216.1 0 3) then
(nm (up u216 0 4 ((u216.1 0 4) + 1)) fun u218 =>
some (.inr (a2.1 + 1, u218)))
else
(nm (up u216 0 4 ((u216.1 0 4) + 0)) fun u217 =>
some (.inr (a2.1 + 1, u217))))))
def gX7_looksAt_13 (v1 : Int32) (v2 : Int32) (v3 : Int32) (v4 : Int32) (a1 : Int32 × S) : Option ((Int32 × S) ⊕ (Int32 × S)) :=
(fX7_along v1 0 v4 a1.2).bind fun q103 =>
if (v2 + q103) ≤ a1.1 then
(some (.inl (a1.1, a1.2)))
else
((lp (gX7_looksAt_31 v1 v3 v4 a1.1) FU (v3, a1.2)).bind fun e104 =>
some (.inr (a1.1 + 1, e104.2)))
def fX7_looksAt (v1 : Int32) (v2 : Int32) (v3 : Int32) (v4 : Int32) (u : S) : Option (S) :=
nm (up u 0 3 0) fun u1 =>
nm (up u1 0 4 0) fun u2 =>
(lp (gX7_looksAt_13 v1 v2 v3 v4) FU (v2, u2)).bind fun e3 =>
some e3.2
/-- TrayBoxModel.can(IIIZ)Z -/
def fX7_can (v1 : Int32) (v2 : Int32) (v3 : Int32) (v4 : Int32) (u : S) : Option (Int32 × S) :=
(fX7_looksAt v1 v2 v3 v4 u).bind fun q1 =>
(fX7_high v1 q1).bind fun q2 =>
gd (inb 2 1375) <|
if (q1.1 1 (2 : Int32).toNatClampNeg) < ((q1.1 0 3) + q2) then
(some (0, q1))
else
(gd (inb 3 1375) <|
(fX7_of v1 0 q1).bind fun q3 =>
(fX7_of v1 1 q1).bind fun q4 =>
if (100 * (q1.1 0 4)) < (((q1.1 1 (3 : Int32).toNatClampNeg) * q3) * q4) then
(some (0, q1))
else
(some (1, q1)))
/-- TrayBoxModel.comes(IIII)V -/
def fX7_comes (v1 : Int32) (v2 : Int32) (v3 : Int32) (v4 : Int32) (u : S) : Option (S) :=
(fX7_laysTops u).bind fun q1 =>
if v4 = 1 then
((fX7_looksAt v1 v2 v3 1 q1).bind fun q8 =>
(fX7_sets v1 5 1 q8).bind fun q9 =>
(fX7_sets v1 6 v4 q9).bind fun q10 =>
(fX7_sets v1 7 v2 q10).bind fun q11 =>
(fX7_sets v1 8 v3 q11).bind fun q12 =>
(fX7_sets v1 9 (q12.1 0 3) q12).bind fun q13 =>
some q13)
else
((fX7_looksAt v1 v2 v3 0 q1).bind fun q2 =>
(fX7_sets v1 5 1 q2).bind fun q3 =>
(fX7_sets v1 6 v4 q3).bind fun q4 =>
(fX7_sets v1 7 v2 q4).bind fun q5 =>
(fX7_sets v1 8 v3 q5).bind fun q6 =>
(fX7_sets v1 9 (q6.1 0 3) q6).bind fun q7 =>
some q7)
/-- TrayBoxModel.letDown(IIIZ)I -/
def fX7_letDown (v1 : Int32) (v2 : Int32) (v3 : Int32) (v4 : Int32) (u : S) : Option (Int32 × S) :=
(fX7_isTray v1 u).bind fun q1 =>
if q1 = 0 then
(some ((-1), u))
else
((fX7_isInside v1 v2 v3 v4 u).bind fun q2 =>
if q2 = 0 then
(some ((-1), u))
else
((fX7_isIn v1 u).bind fun q3 =>
if q3 = 0 then
((fX7_laysTops u).bind fun q4 =>
(fX7_can v1 v2 v3 v4 q4).bind fun q5 =>
if q5.1 = 0 then
(some ((-3), q5.2))
else
((fX7_records q5.2).bind fun q6 =>
if v4 = 0 then
((fX7_comes v1 v2 v3 0 q6).bind fun q7 =>
(fX7_of v1 9 q7).bind fun q8 =>
some (q8, q7))
else
((fX7_comes v1 v2 v3 1 q6).bind fun q9 =>
(fX7_of v1 9 q9).bind fun q10 =>
some (q10, q9))))
else
(some ((-2), u))))
/-- TrayBoxModel.meet(II)Z -/
def fX7_meet (v1 : Int32) (v2 : Int32) (u : S) : Option (Int32) :=
(fX7_of v1 7 u).bind fun q1 =>
(fX7_of v2 7 u).bind fun q2 =>
(fX7_spans v2 0 u).bind fun q3 =>
if (q2 + q3) ≤ q1 then
(if (0 : Int32) = 0 then
(some 0)
else
((fX7_of v1 8 u).bind fun q4 =>
(fX7_of v2 8 u).bind fun q5 =>
(fX7_spans v2 1 u).bind fun q6 =>
if (q5 + q6) ≤ q4 then
(some 0)
else
((fX7_of v2 8 u).bind fun q7 =>
(fX7_of v1 8 u).bind fun q8 =>
(fX7_spans v1 1 u).bind fun q9 =>
if (q8 + q9) ≤ q7 then
(some 0)
else
(some 1))))
else
((fX7_of v2 7 u).bind fun q10 =>
(fX7_of v1 7 u).bind fun q11 =>
(fX7_spans v1 0 u).bind fun q12 =>
if (q11 + q12) ≤ q10 then
(if (0 : Int32) = 0 then
(some 0)
else
((fX7_of v1 8 u).bind fun q13 =>
(fX7_of v2 8 u).bind fun q14 =>
(fX7_spans v2 1 u).bind fun q15 =>
if (q14 + q15) ≤ q13 then
(some 0)
else
((fX7_of v2 8 u).bind fun q16 =>
(fX7_of v1 8 u).bind fun q17 =>
(fX7_spans v1 1 u).bind fun q18 =>
if (q17 + q18) ≤ q16 then
(some 0)
else
(some 1))))
else
(if (1 : Int32) = 0 then
(some 0)
else
((fX7_of v1 8 u).bind fun q19 =>
(fX7_of v2 8 u).bind fun q20 =>
(fX7_spans v2 1 u).bind fun q21 =>
if (q20 + q21) ≤ q19 then
(some 0)
else
((fX7_of v2 8 u).bind fun q22 =>
(fX7_of v1 8 u).bind fun q23 =>
(fX7_spans v1 1 u).bind fun q24 =>
if (q23 + q24) ≤ q22 then
(some 0)
else
(some 1)))))
/-- TrayBoxModel.liesOn(II)Z -/
def fX7_liesOn (v1 : Int32) (v2 : Int32) (u : S) : Option (Int32) :=
if v1 = v2 then
(some 0)
else
((fX7_isIn v1 u).bind fun q1 =>
if q1 = 0 then
(some 0)
else
((fX7_isIn v2 u).bind fun q2 =>
if q2 = 0 then
(some 0)
else
((fX7_meet v1 v2 u).bind fun q3 =>
if q3 = 0 then
(some 0)
else
((fX7_of v1 9 u).bind fun q4 =>
(fX7_top v2 u).bind fun q5 =>
if q4 < q5 then
(some 0)
else
(some 1)))))
/-- TrayBoxModel.above(I)I -/
def gX7_above_26 (v1 : Int32) (v4 : Int32) (u : S) (a3 : Int32 × Int32) : Option ((Int32 × Int32) ⊕ (Int32 × Int32)) :=
(fX7_trays u).bind fun q302 =>
if q302 ≤ a3.2 then
(some (.inl (a3.1, a3.2)))
else
(if a3.2 = v1 then
(if (1 : Int32) = 0 then
(some (.inr (a3.1 ||| 0, a3.2 + 1)))
else
((fX7_liesOn v4 a3.2 u).bind fun q303 =>
if q303 = 0 then
(some (.inr (a3.1 ||| 0, a3.2 + 1)))
else
(some (.inr (a3.1 ||| (1 <<< (v4 &&& 31)), a3.2 + 1)))))
else
(if ((a3.1 >>> (a3.2 &&& 31)) &&& 1) = 1 then
(if (1 : Int32) = 0 then
(some (.inr (a3.1 ||| 0, a3.2 + 1)))
else
((fX7_liesOn v4 a3.2 u).bind fun q305 =>
if q305 = 0 then
(some (.inr (a3.1 ||| 0, a3.2 + 1)))
else
(some (.inr (a3.1 ||| (1 <<< (v4 &&& 31)), a3.2 + 1)))))
else
(if (0 : Int32) = 0 then
(some (.inr (a3.1 ||| 0, a3.2 + 1)))
else
((fX7_liesOn v4 a3.2 u).bind fun q304 =>
if q304 = 0 then
(some (.inr (a3.1 ||| 0, a3.2 + 1)))
else
(some (.inr (a3.1 ||| (1 <<< (v4 &&& 31)), a3.2 + 1)))))))
def gX7_above_14 (v1 : Int32) (u : S) (a2 : Int32 × Int32) : Option ((Int32 × Int32) ⊕ (Int32 × Int32)) :=
(fX7_trays u).bind fun q201 =>
if q201 ≤ a2.2 then
(some (.inl (a2.1, a2.2)))
else
((lp (gX7_above_26 v1 a2.2 u) FU (a2.1, 0)).bind fun e202 =>
some (.inr (e202.1, a2.2 + 1)))
def gX7_above_4 (v1 : Int32) (u : S) (a1 : Int32 × Int32) : Option ((Int32 × Int32) ⊕ (Int32 × Int32)) :=
if a1.2 = a1.1 then
(some (.inl (a1.1, a1.2)))
else
((lp (gX7_above_14 v1 u) FU (a1.1, 0)).bind fun e101 =>
some (.inr (e101.1, a1.1)))
def fX7_above (v1 : Int32) (u : S) : Option (Int32) :=
(lp (gX7_above_4 v1 u) FU (0, (-1))).bind fun e1 =>
some e1.1
/-- TrayBoxModel.lift(I)I -/
def gX7_lift_8  (u : S) (a1 : Int32 × Int32) : Option ((Int32 × Int32) ⊕ (Int32 × Int32)) :=
if a1.2 = 0 then
(some (.inl (a1.1, a1.2)))
else
(some (.inr (a1.1 + 1, a1.2 &&& (a1.2 - 1))))
def fX7_lift (v1 : Int32) (u : S) : Option (Int32) :=
(fX7_above v1 u).bind fun q1 =>
(lp (gX7_lift_8  u) FU (0, q1)).bind fun e2 =>
some e2.1
/-- TrayBoxModel.fault(I)I -/
def gX7_fault_11 (v1 : Int32) (v2 : Int32) (u : S) (a1 : Int32 × Int32) : Option ((Int32 × Int32) ⊕ (Int32 × Int32)) :=
(fX7_trays u).bind fun q102 =>
if q102 ≤ a1.2 then
(some (.inl (a1.1, a1.2)))
else
(if ((v2 >>> (a1.2 &&& 31)) &&& 1) = 1 then
((fX7_of a1.2 3 u).bind fun q103 =>
(fX7_of v1 3 u).bind fun q104 =>
if q103 ≤ q104 then
(some (.inr (a1.1 + 0, a1.2 + 1)))
else
(some (.inr (a1.1 + 1, a1.2 + 1))))
else
(some (.inr (a1.1 + 0, a1.2 + 1))))
def fX7_fault (v1 : Int32) (u : S) : Option (Int32) :=
(fX7_above v1 u).bind fun q1 =>
(lp (gX7_fault_11 v1 q1 u) FU (0, 0)).bind fun e2 =>
some e2.1
/-- TrayBoxModel.rests(I)I -/
def gX7_rests_30 (v1 : Int32) (v3 : Int32) (u : S) (a2 : Int32 × Int32) : Option ((Int32 × Int32) ⊕ (Int32 × Int32)) :=
(fX7_trays u).bind fun q202 =>
if q202 ≤ a2.2 then
(some (.inl (a2.1, a2.2)))
else
(if a2.1 = 0 then
(if a2.2 = v1 then
(some (.inr (0, a2.2 + 1)))
else
((fX7_isIn a2.2 u).bind fun q203 =>
if q203 = 0 then
(some (.inr (0, a2.2 + 1)))
else
((fX7_covers a2.2 (v3 / 10) (v3 % 10) u).bind fun q204 =>
if q204 = 0 then
(some (.inr (0, a2.2 + 1)))
else
((fX7_top a2.2 u).bind fun q205 =>
(fX7_of v1 9 u).bind fun q206 =>
if q205 = q206 then
(some (.inr (1, a2.2 + 1)))
else
(some (.inr (0, a2.2 + 1)))))))
else
(some (.inr (1, a2.2 + 1))))
def gX7_rests_4 (v1 : Int32) (u : S) (a1 : Int32 × Int32) : Option ((Int32 × Int32) ⊕ (Int32 × Int32)) :=
if 100 ≤ a1.2 then
(some (.inl (a1.1, a1.2)))
else
((fX7_of v1 9 u).bind fun q101 =>
if q101 = 0 then
((lp (gX7_rests_30 v1 a1.2 u) FU (1, 0)).bind fun e109 =>
if e109.1 = 0 then
(some (.inr (a1.1 + 0, a1.2 + 1)))
else
((fX7_covers v1 (a1.2 / 10) (a1.2 % 10) u).bind fun q115 =>
if q115 = 0 then
(some (.inr (a1.1 + 0, a1.2 + 1)))
else
(some (.inr (a1.1 + 1, a1.2 + 1)))))
else
((lp (gX7_rests_30 v1 a1.2 u) FU (0, 0)).bind fun e102 =>
if e102.1 = 0 then
(some (.inr (a1.1 + 0, a1.2 + 1)))
else
((fX7_covers v1 (a1.2 / 10) (a1.2 % 10) u).bind fun q108 =>
if q108 = 0 then
(some (.inr (a1.1 + 0, a1.2 + 1)))
else
(some (.inr (a1.1 + 1, a1.2 + 1))))))
def fX7_rests (v1 : Int32) (u : S) : Option (Int32) :=
(lp (gX7_rests_4 v1 u) FU (0, 0)).bind fun e1 =>
some e1.1
/-- TrayBoxModel.faults()I -/
def gX7_faults_4  (u : S) (a1 : Int32 × Int32) : Option ((Int32 × Int32) ⊕ (Int32 × Int32)) :=
(fX7_trays u).bind fun q101 =>
if q101 ≤ a1.2 then
(some (.inl (a1.1, a1.2)))
else
((fX7_isIn a1.2 u).bind fun q102 =>
if q102 = 0 then
(some (.inr (a1.1 + 0, a1.2 + 1)))
else
((fX7_fault a1.2 u).bind fun q103 =>
some (.inr (a1.1 + q103, a1.2 + 1))))
def fX7_faults  (u : S) : Option (Int32) :=
(lp (gX7_faults_4  u) FU (0, 0)).bind fun e1 =>
some e1.1
/-- TrayBoxModel.lifts()I -/
def gX7_lifts_4  (u : S) (a1 : Int32 × Int32) : Option ((Int32 × Int32) ⊕ (Int32 × Int32)) :=
(fX7_trays u).bind fun q101 =>
if q101 ≤ a1.2 then
(some (.inl (a1.1, a1.2)))
else
((fX7_isIn a1.2 u).bind fun q102 =>
if q102 = 0 then
(some (.inr (a1.1 + 0, a1.2 + 1)))
else
((fX7_lift a1.2 u).bind fun q103 =>
some (.inr (a1.1 + q103, a1.2 + 1))))
def fX7_lifts  (u : S) : Option (Int32) :=
(lp (gX7_lifts_4  u) FU (0, 0)).bind fun e1 =>
some e1.1
/-- TrayBoxModel.frees()I -/
def gX7_frees_4  (u : S) (a1 : Int32 × Int32) : Option ((Int32 × Int32) ⊕ (Int32 × Int32)) :=
(fX7_trays u).bind fun q101 =>
if q101 ≤ a1.2 then
(some (.inl (a1.1, a1.2)))
else
((fX7_isIn a1.2 u).bind fun q102 =>
if q102 = 0 then
(some (.inr (a1.1 + 0, a1.2 + 1)))
else
((fX7_above a1.2 u).bind fun q103 =>
if q103 = 0 then
(some (.inr (a1.1 + 1, a1.2 + 1)))
else
(some (.inr (a1.1 + 0, a1.2 + 1)))))
def fX7_frees  (u : S) : Option (Int32) :=
(lp (gX7_frees_4  u) FU (0, 0)).bind fun e1 =>
some e1.1
/-- TrayBoxModel.boxHeight()I -/
def gX7_boxHeight_4  (u : S) (a1 : Int32 × Int32) : Option ((Int32 × Int32) ⊕ (Int32 × Int32)) :=
(fX7_trays u).bind fun q101 =>
if q101 ≤ a1.2 then
(some (.inl (a1.1, a1.2)))
else
((fX7_isIn a1.2 u).bind fun q102 =>
if q102 = 0 then
(some (.inr (a1.1, a1.2 + 1)))
else
((fX7_top a1.2 u).bind fun q103 =>
if q103 ≤ a1.1 then
(some (.inr (a1.1, a1.2 + 1)))
else
((fX7_top a1.2 u).bind fun q104 =>
some (.inr (q104, a1.2 + 1)))))
def fX7_boxHeight  (u : S) : Option (Int32) :=
(lp (gX7_boxHeight_4  u) FU (0, 0)).bind fun e1 =>
some e1.1
/-- TrayBoxModel.air()I -/
def gX7_air_21  (u : S) (a1 : Int32 × Int32) : Option ((Int32 × Int32) ⊕ (Int32 × Int32)) :=
(fX7_trays u).bind fun q102 =>
if q102 ≤ a1.2 then
(some (.inl (a1.1, a1.2)))
else
((fX7_isIn a1.2 u).bind fun q103 =>
if q103 = 0 then
(some (.inr (a1.1 - 0, a1.2 + 1)))
else
((fX7_of a1.2 0 u).bind fun q104 =>
(fX7_of a1.2 1 u).bind fun q105 =>
(fX7_high a1.2 u).bind fun q106 =>
some (.inr (a1.1 - ((q104 * q105) * q106), a1.2 + 1))))
def fX7_air  (u : S) : Option (Int32) :=
gd (inb 0 1375) <|
gd (inb 1 1375) <|
(fX7_boxHeight u).bind fun q1 =>
(lp (gX7_air_21  u) FU (((u.1 1 (0 : Int32).toNatClampNeg) * (u.1 1 (1 : Int32).toNatClampNeg)) * q1, 0)).bind fun e2 =>
some e2.1
/-- TrayBoxModel.type(I)I -/
def fX7_type (v1 : Int32) (u : S) : Option (Int32 × S) :=
(fX7_in v1 32 126 u).bind fun q1 =>
if q1 = 0 then
(some ((-1), u))
else
(if (u.1 0 6) = 100 then
(some ((-3), u))
else
(gd (inb (u.1 0 6) 100) <|
nm (up u 3 (u.1 0 6).toNatClampNeg v1) fun u2 =>
nm (up u2 0 6 ((u2.1 0 6) + 1)) fun u3 =>
some (u3.1 0 6, u3)))
/-- TrayBoxModel.clearText()I -/
def fX7_clearText  (u : S) : Option (Int32 × S) :=
nm (up u 0 6 0) fun u1 =>
some (u.1 0 6, u1)
/-- TrayBoxModel.here()I -/
def fX7_here  (u : S) : Option (Int32) :=
if (u.1 0 6) ≤ (u.1 0 9) then
(some (-9))
else
(gd (inb (u.1 0 9) 100) <|
some (u.1 3 (u.1 0 9).toNatClampNeg))
/-- TrayBoxModel.isDigit()Z -/
def fX7_isDigit  (u : S) : Option (Int32) :=
(fX7_here u).bind fun q1 =>
(fX7_in q1 48 57 u).bind fun q2 =>
gd (isb q2) <| some q2
/-- TrayBoxModel.fails(II)Z -/
def fX7_fails (v1 : Int32) (v2 : Int32) (u : S) : Option (Int32 × S) :=
nm (up u 0 7 v1) fun u1 =>
nm (up u1 0 8 v2) fun u2 =>
some (0, u2)
/-- TrayBoxModel.takes(I)Z -/
def fX7_takes (v1 : Int32) (u : S) : Option (Int32 × S) :=
(fX7_here u).bind fun q1 =>
if q1 = v1 then
(nm (up u 0 9 ((u.1 0 9) + 1)) fun u2 =>
some (1, u2))
else
((fX7_fails 1 (u.1 0 9) u).bind fun q3 =>
gd (isb q3.1) <| some (q3.1, q3.2))
/-- TrayBoxModel.readsNumber(III)Z -/
def gX7_readsNumber_11 (v1 : Int32) (v4 : Int32) (a1 : S) : Option ((S) ⊕ (S)) :=
(fX7_isDigit a1).bind fun q102 =>
if q102 = 0 then
(some (.inl a1))
else
(if (v4 + v1) ≤ (a1.1 0 9) then
(some (.inl a1))
else
((fX7_here a1).bind fun q103 =>
nm (up a1 0 10 (((10 * (a1.1 0 10)) + q103) - 48)) fun u104 =>
nm (up u104 0 9 ((u104.1 0 9) + 1)) fun u105 =>
some (.inr u105)))
def fX7_readsNumber (v1 : Int32) (v2 : Int32) (v3 : Int32) (u : S) : Option (Int32 × S) :=
nm (up u 0 10 0) fun u1 =>
(lp (gX7_readsNumber_11 v1 (u.1 0 9)) FU u1).bind fun e2 =>
if (e2.1 0 9) = (u.1 0 9) then
((fX7_fails 1 (e2.1 0 9) e2).bind fun q7 =>
gd (isb q7.1) <| some (q7.1, q7.2))
else
((fX7_isDigit e2).bind fun q8 =>
if q8 = 0 then
((fX7_in (e2.1 0 10) v2 v3 e2).bind fun q9 =>
if q9 = 0 then
((fX7_fails 2 (u.1 0 9) e2).bind fun q10 =>
if q10.1 = 0 then
(some (0, q10.2))
else
(some (1, q10.2)))
else
(some (1, e2)))
else
((fX7_fails 1 (e2.1 0 9) e2).bind fun q11 =>
gd (isb q11.1) <| some (q11.1, q11.2)))
/-- TrayBoxModel.readsInto(III)Z -/
def fX7_readsInto (v1 : Int32) (v2 : Int32) (v3 : Int32) (u : S) : Option (Int32 × S) :=
(fX7_readsNumber 2 1 v3 u).bind fun q1 =>
(fX7_sets v1 v2 (q1.2.1 0 10) q1.2).bind fun q2 =>
gd (isb q1.1) <| some (q1.1, q2)
/-- TrayBoxModel.readsTray()Z -/
def fX7_readsTray  (u : S) : Option (Int32 × S) :=
(fX7_trays u).bind fun q1 =>
if q1 = 12 then
((fX7_isDigit u).bind fun q29 =>
if q29 = 0 then
((fX7_fails 1 (u.1 0 9) u).bind fun q30 =>
gd (isb q30.1) <| some (q30.1, q30.2))
else
((fX7_fails 3 (u.1 0 9) u).bind fun q31 =>
gd (isb q31.1) <| some (q31.1, q31.2)))
else
((fX7_leaves q1 u).bind fun q2 =>
(fX7_sets q1 3 0 q2).bind fun q3 =>
(fX7_sets q1 4 0 q3).bind fun q4 =>
(fX7_readsInto q1 0 10 q4).bind fun q5 =>
if q5.1 = 0 then
(some (0, q5.2))
else
((fX7_takes 120 q5.2).bind fun q6 =>
if q6.1 = 0 then
(some (0, q6.2))
else
((fX7_readsInto q1 1 10 q6.2).bind fun q7 =>
if q7.1 = 0 then
(some (0, q7.2))
else
((fX7_takes 120 q7.2).bind fun q8 =>
if q8.1 = 0 then
(some (0, q8.2))
else
((fX7_readsInto q1 2 9 q8.2).bind fun q9 =>
if q9.1 = 0 then
(some (0, q9.2))
else
((fX7_here q9.2).bind fun q10 =>
if q10 = 108 then
((fX7_sets q1 4 1 q9.2).bind fun q19 =>
nm (up q19 0 9 ((q19.1 0 9) + 1)) fun u20 =>
(fX7_here u20).bind fun q21 =>
if q21 = 64 then
(nm (up u20 0 9 ((u20.1 0 9) + 1)) fun u24 =>
(fX7_readsNumber 1 0 9 u24).bind fun q25 =>
if q25.1 = 0 then
(some (0, q25.2))
else
((fX7_sets q1 3 (q25.2.1 0 10) q25.2).bind fun q26 =>
gd (inb 4 1375) <|
gd (inb 4 1375) <|
nm (up q26 1 (4 : Int32).toNatClampNeg ((q26.1 1 (4 : Int32).toNatClampNeg) + 1)) fun u27 =>
(fX7_takes 59 u27).bind fun q28 =>
gd (isb q28.1) <| some (q28.1, q28.2)))
else
(gd (inb 4 1375) <|
gd (inb 4 1375) <|
nm (up u20 1 (4 : Int32).toNatClampNeg ((u20.1 1 (4 : Int32).toNatClampNeg) + 1)) fun u22 =>
(fX7_takes 59 u22).bind fun q23 =>
gd (isb q23.1) <| some (q23.1, q23.2)))
else
((fX7_here q9.2).bind fun q11 =>
if q11 = 64 then
(nm (up q9.2 0 9 ((q9.2.1 0 9) + 1)) fun u14 =>
(fX7_readsNumber 1 0 9 u14).bind fun q15 =>
if q15.1 = 0 then
(some (0, q15.2))
else
((fX7_sets q1 3 (q15.2.1 0 10) q15.2).bind fun q16 =>
gd (inb 4 1375) <|
gd (inb 4 1375) <|
nm (up q16 1 (4 : Int32).toNatClampNeg ((q16.1 1 (4 : Int32).toNatClampNeg) + 1)) fun u17 =>
(fX7_takes 59 u17).bind fun q18 =>
gd (isb q18.1) <| some (q18.1, q18.2)))
else
(gd (inb 4 1375) <|
gd (inb 4 1375) <|
nm (up q9.2 1 (4 : Int32).toNatClampNeg ((q9.2.1 1 (4 : Int32).toNatClampNeg) + 1)) fun u12 =>
(fX7_takes 59 u12).bind fun q13 =>
gd (isb q13.1) <| some (q13.1, q13.2)))))))))
/-- TrayBoxModel.recordsKept(I)V -/
def gX7_recordsKept_2 (v1 : Int32) (a1 : Int32 × S) : Option ((Int32 × S) ⊕ (Int32 × S)) :=
if 125 ≤ a1.1 then
(some (.inl (a1.1, a1.2)))
else
(gd (inb a1.1 1375) <|
gd (inb ((125 * v1) + a1.1) 1375) <|
gd (inb a1.1 1375) <|
nm (up a1.2 1 a1.1.toNatClampNeg (a1.2.1 1 ((125 * v1) + a1.1).toNatClampNeg)) fun u101 =>
gd (inb ((125 * v1) + a1.1) 1375) <|
nm (up u101 1 ((125 * v1) + a1.1).toNatClampNeg (a1.2.1 1 a1.1.toNatClampNeg)) fun u102 =>
some (.inr (a1.1 + 1, u102)))
def fX7_recordsKept (v1 : Int32) (u : S) : Option (S) :=
(lp (gX7_recordsKept_2 v1) FU (0, u)).bind fun e1 =>
(fX7_records e1.2).bind fun q4 =>
(fX7_copies v1 0 q4).bind fun q5 =>
some q5
/-- TrayBoxModel.load()I -/
def gX7_load_26  (a1 : Int32 × S) : Option ((Int32 × S) ⊕ (Int32 × S)) :=
if a1.1 = 0 then
(some (.inl (a1.1, a1.2)))
else
(if (a1.2.1 0 6) ≤ (a1.2.1 0 9) then
(some (.inl (a1.1, a1.2)))
else
((fX7_readsTray a1.2).bind fun q105 =>
some (.inr (q105.1, q105.2))))
def fX7_load  (u : S) : Option (Int32 × S) :=
(fX7_copies 0 9 u).bind fun q1 =>
nm (up q1 0 7 0) fun u2 =>
nm (up u2 0 9 0) fun u3 =>
gd (inb 4 1375) <|
nm (up u3 1 (4 : Int32).toNatClampNeg 0) fun u4 =>
(lp (gX7_load_26 ) FU (1, u4)).bind fun e5 =>
if e5.1 = 0 then
((fX7_copies 9 0 e5.2).bind fun q9 =>
some ((-10) - (q9.1 0 8), q9))
else
((fX7_recordsKept 9 e5.2).bind fun q7 =>
(fX7_trays q7).bind fun q8 =>
some (q8, q7))
/-- TrayBoxModel.faultKind()I -/
def fX7_faultKind  (u : S) : Option (Int32) :=
some (u.1 0 7)
/-- TrayBoxModel.setBox(III)I -/
def fX7_setBox (v1 : Int32) (v2 : Int32) (v3 : Int32) (u : S) : Option (Int32 × S) :=
(fX7_in v1 2 10 u).bind fun q1 =>
if q1 = 0 then
(some ((-1), u))
else
((fX7_in v2 2 10 u).bind fun q2 =>
if q2 = 0 then
(some ((-1), u))
else
((fX7_in v3 1 30 u).bind fun q3 =>
if q3 = 0 then
(some ((-1), u))
else
((fX7_records u).bind fun q4 =>
(fX7_inBox q4).bind fun q5 =>
(fX7_empties q4).bind fun q6 =>
gd (inb 0 1375) <|
nm (up q6 1 (0 : Int32).toNatClampNeg v1) fun u7 =>
gd (inb 1 1375) <|
nm (up u7 1 (1 : Int32).toNatClampNeg v2) fun u8 =>
gd (inb 2 1375) <|
nm (up u8 1 (2 : Int32).toNatClampNeg v3) fun u9 =>
some (q5, u9))))
/-- TrayBoxModel.setShare(I)I -/
def fX7_setShare (v1 : Int32) (u : S) : Option (Int32 × S) :=
(fX7_in v1 0 100 u).bind fun q1 =>
if q1 = 0 then
(some ((-1), u))
else
((fX7_records u).bind fun q2 =>
gd (inb 3 1375) <|
gd (inb 3 1375) <|
nm (up q2 1 (3 : Int32).toNatClampNeg v1) fun u3 =>
some (q2.1 1 (3 : Int32).toNatClampNeg, u3))
/-- TrayBoxModel.add(IIII)I -/
def fX7_add (v1 : Int32) (v2 : Int32) (v3 : Int32) (v4 : Int32) (u : S) : Option (Int32 × S) :=
(fX7_in v1 1 10 u).bind fun q1 =>
if q1 = 0 then
(some ((-1), u))
else
((fX7_in v2 1 10 u).bind fun q2 =>
if q2 = 0 then
(some ((-1), u))
else
((fX7_in v3 1 9 u).bind fun q3 =>
if q3 = 0 then
(some ((-1), u))
else
((fX7_in v4 0 9 u).bind fun q4 =>
if q4 = 0 then
(some ((-1), u))
else
((fX7_trays u).bind fun q5 =>
if q5 = 12 then
(some ((-3), u))
else
((fX7_records u).bind fun q6 =>
(fX7_trays q6).bind fun q7 =>
(fX7_leaves q7 q6).bind fun q8 =>
(fX7_sets q7 0 v1 q8).bind fun q9 =>
(fX7_sets q7 1 v2 q9).bind fun q10 =>
(fX7_sets q7 2 v3 q10).bind fun q11 =>
(fX7_sets q7 3 v4 q11).bind fun q12 =>
(fX7_sets q7 4 0 q12).bind fun q13 =>
gd (inb 4 1375) <|
gd (inb 4 1375) <|
nm (up q13 1 (4 : Int32).toNatClampNeg ((q13.1 1 (4 : Int32).toNatClampNeg) + 1)) fun u14 =>
some (q7, u14))))))
/-- TrayBoxModel.drop(I)I -/
def gX7_drop_42  (a1 : Int32 × S) : Option ((Int32 × S) ⊕ (Int32 × S)) :=
(fX7_trays a1.2).bind fun q105 =>
if (5 + (10 * q105)) ≤ a1.1 then
(some (.inl (a1.1, a1.2)))
else
(gd (inb (a1.1 + 10) 1375) <|
gd (inb a1.1 1375) <|
nm (up a1.2 1 a1.1.toNatClampNeg (a1.2.1 1 (a1.1 + 10).toNatClampNeg)) fun u106 =>
some (.inr (a1.1 + 1, u106)))
def fX7_drop (v1 : Int32) (u : S) : Option (Int32 × S) :=
(fX7_isTray v1 u).bind fun q1 =>
if q1 = 0 then
(some ((-1), u))
else
((fX7_isIn v1 u).bind fun q2 =>
if q2 = 0 then
((fX7_records u).bind fun q3 =>
gd (inb 4 1375) <|
gd (inb 4 1375) <|
nm (up q3 1 (4 : Int32).toNatClampNeg ((q3.1 1 (4 : Int32).toNatClampNeg) - 1)) fun u4 =>
(lp (gX7_drop_42 ) FU (5 + (10 * v1), u4)).bind fun e5 =>
(fX7_trays e5.2).bind fun q8 =>
some (q8, e5.2))
else
(some ((-2), u)))
/-- TrayBoxModel.setTray(III)I -/
def fX7_setTray (v1 : Int32) (v2 : Int32) (v3 : Int32) (u : S) : Option (Int32 × S) :=
(fX7_isTray v1 u).bind fun q1 =>
if q1 = 0 then
(some ((-1), u))
else
((fX7_in v2 0 1 u).bind fun q2 =>
if q2 = 0 then
(some ((-1), u))
else
(if v2 = 0 then
((fX7_in v3 0 9 u).bind fun q11 =>
if q11 = 0 then
(some ((-1), u))
else
(if v2 = 1 then
((fX7_isIn v1 u).bind fun q15 =>
if q15 = 0 then
((fX7_records u).bind fun q16 =>
(fX7_of v1 (3 + v2) q16).bind fun q17 =>
(fX7_sets v1 (3 + v2) v3 q16).bind fun q18 =>
some (q17, q18))
else
(some ((-2), u)))
else
((fX7_records u).bind fun q12 =>
(fX7_of v1 (3 + v2) q12).bind fun q13 =>
(fX7_sets v1 (3 + v2) v3 q12).bind fun q14 =>
some (q13, q14))))
else
((fX7_in v3 0 1 u).bind fun q3 =>
if q3 = 0 then
(some ((-1), u))
else
(if v2 = 1 then
((fX7_isIn v1 u).bind fun q7 =>
if q7 = 0 then
((fX7_records u).bind fun q8 =>
(fX7_of v1 (3 + v2) q8).bind fun q9 =>
(fX7_sets v1 (3 + v2) v3 q8).bind fun q10 =>
some (q9, q10))
else
(some ((-2), u)))
else
((fX7_records u).bind fun q4 =>
(fX7_of v1 (3 + v2) q4).bind fun q5 =>
(fX7_sets v1 (3 + v2) v3 q4).bind fun q6 =>
some (q5, q6))))))
/-- TrayBoxModel.takeOut(I)I -/
def fX7_takeOut (v1 : Int32) (u : S) : Option (Int32 × S) :=
(fX7_isTray v1 u).bind fun q1 =>
if q1 = 0 then
(some ((-1), u))
else
((fX7_isIn v1 u).bind fun q2 =>
if q2 = 0 then
(some ((-2), u))
else
((fX7_above v1 u).bind fun q3 =>
if q3 = 0 then
((fX7_records u).bind fun q4 =>
(fX7_of v1 9 q4).bind fun q5 =>
(fX7_leaves v1 q4).bind fun q6 =>
some (q5, q6))
else
(some ((-2), u))))
/-- TrayBoxModel.empty()I -/
def fX7_empty  (u : S) : Option (Int32 × S) :=
(fX7_records u).bind fun q1 =>
(fX7_inBox q1).bind fun q2 =>
(fX7_empties q1).bind fun q3 =>
some (q2, q3)
/-- TrayBoxModel.tray(II)I -/
def fX7_tray (v1 : Int32) (v2 : Int32) (u : S) : Option (Int32) :=
(fX7_isTray v1 u).bind fun q1 =>
if q1 = 0 then
(some (-1))
else
((fX7_in v2 0 15 u).bind fun q2 =>
if q2 = 0 then
(some (-1))
else
(if 7 ≤ v2 then
((fX7_isIn v1 u).bind fun q3 =>
if q3 = 0 then
(some (-9))
else
(if v2 = 7 then
((fX7_of v1 v2 u).bind fun q4 =>
some q4)
else
(if v2 = 8 then
((fX7_of v1 v2 u).bind fun q5 =>
some q5)
else
(if v2 = 9 then
((fX7_of v1 v2 u).bind fun q6 =>
some q6)
else
(if v2 = 10 then
((fX7_top v1 u).bind fun q7 =>
some q7)
else
(if v2 = 11 then
((fX7_lift v1 u).bind fun q8 =>
some q8)
else
(if v2 = 12 then
((fX7_fault v1 u).bind fun q9 =>
some q9)
else
(if v2 = 13 then
((fX7_above v1 u).bind fun q10 =>
if q10 = 0 then
(some 1)
else
(some 0))
else
(if v2 = 14 then
((fX7_above v1 u).bind fun q11 =>
some q11)
else
((fX7_rests v1 u).bind fun q12 =>
some q12))))))))))
else
((fX7_of v1 v2 u).bind fun q13 =>
some q13)))
/-- TrayBoxModel.seen(IIZ)I -/
def gX7_seen_41 (v1 : Int32) (v2 : Int32) (u : S) (a1 : Int32 × Int32) : Option ((Int32 × Int32) ⊕ (Int32 × Int32)) :=
(fX7_trays u).bind fun q103 =>
if q103 ≤ a1.2 then
(some (.inl (a1.1, a1.2)))
else
((fX7_isIn a1.2 u).bind fun q104 =>
if q104 = 0 then
(if (0 : Int32) = 0 then
(some (.inr (a1.1, a1.2 + 1)))
else
(if a1.1 = (-9) then
(some (.inr (a1.2, a1.2 + 1)))
else
((fX7_top a1.2 u).bind fun q105 =>
(fX7_top a1.1 u).bind fun q106 =>
if q105 ≤ q106 then
(some (.inr (a1.1, a1.2 + 1)))
else
(some (.inr (a1.2, a1.2 + 1))))))
else
((fX7_covers a1.2 v1 v2 u).bind fun q107 =>
if q107 = 0 then
(if (0 : Int32) = 0 then
(some (.inr (a1.1, a1.2 + 1)))
else
(if a1.1 = (-9) then
(some (.inr (a1.2, a1.2 + 1)))
else
((fX7_top a1.2 u).bind fun q108 =>
(fX7_top a1.1 u).bind fun q109 =>
if q108 ≤ q109 then
(some (.inr (a1.1, a1.2 + 1)))
else
(some (.inr (a1.2, a1.2 + 1))))))
else
(if (1 : Int32) = 0 then
(some (.inr (a1.1, a1.2 + 1)))
else
(if a1.1 = (-9) then
(some (.inr (a1.2, a1.2 + 1)))
else
((fX7_top a1.2 u).bind fun q110 =>
(fX7_top a1.1 u).bind fun q111 =>
if q110 ≤ q111 then
(some (.inr (a1.1, a1.2 + 1)))
else
(some (.inr (a1.2, a1.2 + 1))))))))
def fX7_seen (v1 : Int32) (v2 : Int32) (v3 : Int32) (u : S) : Option (Int32) :=
gd (inb 0 1375) <|
(fX7_in v1 0 ((u.1 1 (0 : Int32).toNatClampNeg) - 1) u).bind fun q1 =>
if q1 = 0 then
(some (-1))
else
(gd (inb 1 1375) <|
(fX7_in v2 0 ((u.1 1 (1 : Int32).toNatClampNeg) - 1) u).bind fun q2 =>
if q2 = 0 then
(some (-1))
else
((lp (gX7_seen_41 v1 v2 u) FU ((-9), 0)).bind fun e3 =>
if v3 = 0 then
(some e3.1)
else
(if e3.1 = (-9) then
(some 0)
else
((fX7_top e3.1 u).bind fun q13 =>
some q13))))
/-- TrayBoxModel.finds(I)V -/
def gX7_finds_65 (v1 : Int32) (v2 : Int32) (v3 : Int32) (v4 : Int32) (a3 : Int32 × S) : Option ((Int32 × S) ⊕ (Int32 × S)) :=
if v2 ≤ a3.1 then
(some (.inl (a3.1, a3.2)))
else
(if a3.1 = 1 then
((fX7_isInside v1 v4 v3 1 a3.2).bind fun q329 =>
if q329 = 0 then
(some (.inr (a3.1 + 1, a3.2)))
else
(if a3.1 = 1 then
((fX7_can v1 v4 v3 1 a3.2).bind fun q341 =>
if q341.1 = 0 then
(some (.inr (a3.1 + 1, q341.2)))
else
((fX7_high v1 q341.2).bind fun q342 =>
nm (up q341.2 0 15 ((q341.2.1 0 15) + 1)) fun u343 =>
if (u343.1 0 14) = (-9) then
(nm (up u343 0 14 ((q341.2.1 0 3) + q342)) fun u344 =>
nm (up u344 0 11 v4) fun u345 =>
nm (up u345 0 12 v3) fun u346 =>
nm (up u346 0 13 a3.1) fun u347 =>
some (.inr (a3.1 + 1, u347)))
else
(if (u343.1 0 14) ≤ ((q341.2.1 0 3) + q342) then
(some (.inr (a3.1 + 1, u343)))
else
(nm (up u343 0 14 ((q341.2.1 0 3) + q342)) fun u348 =>
nm (up u348 0 11 v4) fun u349 =>
nm (up u349 0 12 v3) fun u350 =>
nm (up u350 0 13 a3.1) fun u351 =>
some (.inr (a3.1 + 1, u351))))))
else
((fX7_can v1 v4 v3 0 a3.2).bind fun q330 =>
if q330.1 = 0 then
(some (.inr (a3.1 + 1, q330.2)))
else
((fX7_high v1 q330.2).bind fun q331 =>
nm (up q330.2 0 15 ((q330.2.1 0 15) + 1)) fun u332 =>
if (u332.1 0 14) = (-9) then
(nm (up u332 0 14 ((q330.2.1 0 3) + q331)) fun u333 =>
nm (up u333 0 11 v4) fun u334 =>
nm (up u334 0 12 v3) fun u335 =>
nm (up u335 0 13 a3.1) fun u336 =>
some (.inr (a3.1 + 1, u336)))
else
(if (u332.1 0 14) ≤ ((q330.2.1 0 3) + q331) then
(some (.inr (a3.1 + 1, u332)))
else
(nm (up u332 0 14 ((q330.2.1 0 3) + q331)) fun u337 =>
nm (up u337 0 11 v4) fun u338 =>
nm (up u338 0 12 v3) fun u339 =>
nm (up u339 0 13 a3.1) fun u340 =>
some (.inr (a3.1 + 1, u340))))))))
else
((fX7_isInside v1 v4 v3 0 a3.2).bind fun q306 =>
if q306 = 0 then
(some (.inr (a3.1 + 1, a3.2)))
else
(if a3.1 = 1 then
((fX7_can v1 v4 v3 1 a3.2).bind fun q318 =>
if q318.1 = 0 then
(some (.inr (a3.1 + 1, q318.2)))
else
((fX7_high v1 q318.2).bind fun q319 =>
nm (up q318.2 0 15 ((q318.2.1 0 15) + 1)) fun u320 =>
if (u320.1 0 14) = (-9) then
(nm (up u320 0 14 ((q318.2.1 0 3) + q319)) fun u321 =>
nm (up u321 0 11 v4) fun u322 =>
nm (up u322 0 12 v3) fun u323 =>
nm (up u323 0 13 a3.1) fun u324 =>
some (.inr (a3.1 + 1, u324)))
else
(if (u320.1 0 14) ≤ ((q318.2.1 0 3) + q319) then
(some (.inr (a3.1 + 1, u320)))
else
(nm (up u320 0 14 ((q318.2.1 0 3) + q319)) fun u325 =>
nm (up u325 0 11 v4) fun u326 =>
nm (up u326 0 12 v3) fun u327 =>
nm (up u327 0 13 a3.1) fun u328 =>
some (.inr (a3.1 + 1, u328))))))
else
((fX7_can v1 v4 v3 0 a3.2).bind fun q307 =>
if q307.1 = 0 then
(some (.inr (a3.1 + 1, q307.2)))
else
((fX7_high v1 q307.2).bind fun q308 =>
nm (up q307.2 0 15 ((q307.2.1 0 15) + 1)) fun u309 =>
if (u309.1 0 14) = (-9) then
(nm (up u309 0 14 ((q307.2.1 0 3) + q308)) fun u310 =>
nm (up u310 0 11 v4) fun u311 =>
nm (up u311 0 12 v3) fun u312 =>
nm (up u312 0 13 a3.1) fun u313 =>
some (.inr (a3.1 + 1, u313)))
else
(if (u309.1 0 14) ≤ ((q307.2.1 0 3) + q308) then
(some (.inr (a3.1 + 1, u309)))
else
(nm (up u309 0 14 ((q307.2.1 0 3) + q308)) fun u314 =>
nm (up u314 0 11 v4) fun u315 =>
nm (up u315 0 12 v3) fun u316 =>
nm (up u316 0 13 a3.1) fun u317 =>
some (.inr (a3.1 + 1, u317)))))))))
def gX7_finds_51 (v1 : Int32) (v2 : Int32) (v3 : Int32) (a2 : Int32 × S) : Option ((Int32 × S) ⊕ (Int32 × S)) :=
gd (inb 0 1375) <|
if (a2.2.1 1 (0 : Int32).toNatClampNeg) ≤ a2.1 then
(some (.inl (a2.1, a2.2)))
else
((lp (gX7_finds_65 v1 v2 v3 a2.1) FU (0, a2.2)).bind fun e206 =>
some (.inr (a2.1 + 1, e206.2)))
def gX7_finds_38 (v1 : Int32) (v2 : Int32) (a1 : Int32 × S) : Option ((Int32 × S) ⊕ (Int32 × S)) :=
gd (inb 1 1375) <|
if (a1.2.1 1 (1 : Int32).toNatClampNeg) ≤ a1.1 then
(some (.inl (a1.1, a1.2)))
else
((lp (gX7_finds_51 v1 v2 a1.1) FU (0, a1.2)).bind fun e106 =>
some (.inr (a1.1 + 1, e106.2)))
def fX7_finds (v1 : Int32) (u : S) : Option (S) :=
(fX7_laysTops u).bind fun q1 =>
nm (up q1 0 15 0) fun u2 =>
nm (up u2 0 14 (-9)) fun u3 =>
(fX7_of v1 0 u3).bind fun q4 =>
(fX7_of v1 1 u3).bind fun q5 =>
if q4 = q5 then
((lp (gX7_finds_38 v1 1) FU (0, u3)).bind fun e55 =>
some e55.2)
else
((lp (gX7_finds_38 v1 2) FU (0, u3)).bind fun e6 =>
some e6.2)
/-- TrayBoxModel.place(II)I -/
def fX7_place (v1 : Int32) (v2 : Int32) (u : S) : Option (Int32 × S) :=
(fX7_isTray v1 u).bind fun q1 =>
if q1 = 0 then
(some ((-1), u))
else
((fX7_in v2 0 3 u).bind fun q2 =>
if q2 = 0 then
(some ((-1), u))
else
((fX7_isIn v1 u).bind fun q3 =>
if q3 = 0 then
((fX7_finds v1 u).bind fun q4 =>
if (q4.1 0 14) = (-9) then
(some ((-9), q4))
else
(if v2 = 0 then
(some (q4.1 0 11, q4))
else
(if v2 = 1 then
(some (q4.1 0 12, q4))
else
(if v2 = 2 then
(some (q4.1 0 13, q4))
else
(some (q4.1 0 14, q4))))))
else
(some ((-2), u))))
/-- TrayBoxModel.places(I)I -/
def fX7_places (v1 : Int32) (u : S) : Option (Int32 × S) :=
(fX7_isTray v1 u).bind fun q1 =>
if q1 = 0 then
(some ((-1), u))
else
((fX7_isIn v1 u).bind fun q2 =>
if q2 = 0 then
((fX7_finds v1 u).bind fun q3 =>
some (q3.1 0 15, q3))
else
(some ((-2), u)))
/-- TrayBoxModel.isAhead(II)Z -/
def fX7_isAhead (v1 : Int32) (v2 : Int32) (u : S) : Option (Int32) :=
(fX7_of v1 3 u).bind fun q1 =>
(fX7_of v2 3 u).bind fun q2 =>
if q1 = q2 then
((fX7_of v1 0 u).bind fun q3 =>
(fX7_of v1 1 u).bind fun q4 =>
(fX7_of v2 0 u).bind fun q5 =>
(fX7_of v2 1 u).bind fun q6 =>
if (q3 * q4) = (q5 * q6) then
(if v2 ≤ v1 then
(some 0)
else
(some 1))
else
(if (q3 * q4) ≤ (q5 * q6) then
(some 0)
else
(some 1)))
else
((fX7_of v1 3 u).bind fun q7 =>
(fX7_of v2 3 u).bind fun q8 =>
if q7 ≤ q8 then
(some 0)
else
(some 1))
/-- TrayBoxModel.ordersUsually()V -/
def gX7_ordersUsually_12 (v1 : Int32) (a2 : Int32 × S) : Option ((Int32 × S) ⊕ (Int32 × S)) :=
if a2.1 ≤ 0 then
(some (.inl (a2.1, a2.2)))
else
(gd (inb (a2.1 - 1) 12) <|
(fX7_isAhead v1 (a2.2.1 4 (a2.1 - 1).toNatClampNeg) a2.2).bind fun q202 =>
if q202 = 0 then
(some (.inl (a2.1, a2.2)))
else
(gd (inb (a2.1 - 1) 12) <|
gd (inb a2.1 12) <|
nm (up a2.2 4 a2.1.toNatClampNeg (a2.2.1 4 (a2.1 - 1).toNatClampNeg)) fun u203 =>
some (.inr (a2.1 + (-1), u203))))
def gX7_ordersUsually_2  (a1 : Int32 × S) : Option ((Int32 × S) ⊕ (Int32 × S)) :=
(fX7_trays a1.2).bind fun q101 =>
if q101 ≤ a1.1 then
(some (.inl (a1.1, a1.2)))
else
((lp (gX7_ordersUsually_12 a1.1) FU (a1.1, a1.2)).bind fun e102 =>
gd (inb e102.1 12) <|
nm (up e102.2 4 e102.1.toNatClampNeg a1.1) fun u105 =>
some (.inr (a1.1 + 1, u105)))
def fX7_ordersUsually  (u : S) : Option (S) :=
(lp (gX7_ordersUsually_2 ) FU (0, u)).bind fun e1 =>
some e1.2
/-- TrayBoxModel.packs()V -/
def gX7_packs_6  (a1 : Int32 × S) : Option ((Int32 × S) ⊕ (Int32 × S)) :=
(fX7_trays a1.2).bind fun q102 =>
if q102 ≤ a1.1 then
(some (.inl (a1.1, a1.2)))
else
(gd (inb a1.1 12) <|
(fX7_finds (a1.2.1 4 a1.1.toNatClampNeg) a1.2).bind fun q103 =>
if (q103.1 0 14) = (-9) then
(some (.inr (a1.1 + 1, q103)))
else
(gd (inb a1.1 12) <|
(fX7_comes (q103.1 4 a1.1.toNatClampNeg) (q103.1 0 11) (q103.1 0 12) (q103.1 0 13) q103).bind fun q104 =>
some (.inr (a1.1 + 1, q104))))
def fX7_packs  (u : S) : Option (S) :=
(fX7_empties u).bind fun q1 =>
(lp (gX7_packs_6 ) FU (0, q1)).bind fun e2 =>
some e2.2
/-- TrayBoxModel.swaps(II)V -/
def fX7_swaps (v1 : Int32) (v2 : Int32) (u : S) : Option (S) :=
gd (inb v1 12) <|
gd (inb v2 12) <|
gd (inb v1 12) <|
nm (up u 4 v1.toNatClampNeg (u.1 4 v2.toNatClampNeg)) fun u1 =>
gd (inb v2 12) <|
nm (up u1 4 v2.toNatClampNeg (u.1 4 v1.toNatClampNeg)) fun u2 =>
some u2
/-- TrayBoxModel.ordersNext()Z -/
def gX7_ordersNext_7  (u : S) (a1 : Int32) : Option ((Int32) ⊕ (Int32)) :=
if a1 < 0 then
(some (.inl a1))
else
(gd (inb a1 12) <|
gd (inb (a1 + 1) 12) <|
if (u.1 4 a1.toNatClampNeg) ≤ (u.1 4 (a1 + 1).toNatClampNeg) then
(some (.inl a1))
else
(some (.inr (a1 + (-1)))))
def gX7_ordersNext_47 (v1 : Int32) (u : S) (a1 : Int32) : Option ((Int32) ⊕ (Int32)) :=
gd (inb a1 12) <|
gd (inb v1 12) <|
if (u.1 4 v1.toNatClampNeg) ≤ (u.1 4 a1.toNatClampNeg) then
(some (.inl a1))
else
(some (.inr (a1 + (-1))))
def gX7_ordersNext_86  (a1 : Int32 × Int32 × S) : Option ((Int32 × Int32 × S) ⊕ (Int32 × Int32 × S)) :=
if a1.1 ≤ a1.2.1 then
(some (.inl (a1.1, a1.2.1, a1.2.2)))
else
((fX7_swaps a1.2.1 a1.1 a1.2.2).bind fun q107 =>
some (.inr (a1.1 + (-1), a1.2.1 + 1, q107)))
def fX7_ordersNext  (u : S) : Option (Int32 × S) :=
(fX7_trays u).bind fun q1 =>
(lp (gX7_ordersNext_7  u) FU (q1 - 2)).bind fun e2 =>
if 0 ≤ e2 then
((fX7_trays u).bind fun q3 =>
(lp (gX7_ordersNext_47 e2 u) FU (q3 - 1)).bind fun e4 =>
(fX7_swaps e2 e4 u).bind fun q5 =>
(fX7_trays q5).bind fun q6 =>
(lp (gX7_ordersNext_86 ) FU (q6 - 1, e2 + 1, q5)).bind fun e7 =>
some (1, e7.2.2))
else
(some (0, u))
/-- TrayBoxModel.comesTo(I)I -/
def fX7_comesTo (v1 : Int32) (u : S) : Option (Int32) :=
if v1 = 0 then
((fX7_trays u).bind fun q1 =>
(fX7_inBox u).bind fun q2 =>
some (q1 - q2))
else
(if v1 = 1 then
((fX7_faults u).bind fun q3 =>
some q3)
else
(if v1 = 2 then
((fX7_boxHeight u).bind fun q4 =>
some q4)
else
((fX7_air u).bind fun q5 =>
some q5)))
/-- TrayBoxModel.isBetter()Z -/
def gX7_isBetter_2  (u : S) (a1 : Int32) : Option (((Int32) ⊕ (Int32)) ⊕ (Int32)) :=
if 4 ≤ a1 then
(some (.inl (.inr a1)))
else
((fX7_comesTo a1 u).bind fun q101 =>
gd (inb a1 4) <|
if q101 = (u.1 6 a1.toNatClampNeg) then
(some (.inr (a1 + 1)))
else
((fX7_comesTo a1 u).bind fun q102 =>
gd (inb a1 4) <|
if (u.1 6 a1.toNatClampNeg) ≤ q102 then
(some (.inl (.inl 0)))
else
(some (.inl (.inl 1)))))
def fX7_isBetter  (u : S) : Option (Int32) :=
(lp (gX7_isBetter_2  u) FU 0).bind (Sum.elim (fun x => some x) fun e1 =>
some 0)
/-- TrayBoxModel.ordersBest()V -/
def gX7_ordersBest_2  (a1 : Int32 × S) : Option ((Int32 × S) ⊕ (Int32 × S)) :=
(fX7_trays a1.2).bind fun q101 =>
if q101 ≤ a1.1 then
(some (.inl (a1.1, a1.2)))
else
(gd (inb a1.1 12) <|
nm (up a1.2 4 a1.1.toNatClampNeg a1.1) fun u102 =>
some (.inr (a1.1 + 1, u102)))
def gX7_ordersBest_48  (a2 : Int32 × S) : Option ((Int32 × S) ⊕ (Int32 × S)) :=
if 4 ≤ a2.1 then
(some (.inl (a2.1, a2.2)))
else
((fX7_comesTo a2.1 a2.2).bind fun q205 =>
gd (inb a2.1 4) <|
nm (up a2.2 6 a2.1.toNatClampNeg q205) fun u206 =>
some (.inr (a2.1 + 1, u206)))
def gX7_ordersBest_72  (a2 : Int32 × S) : Option ((Int32 × S) ⊕ (Int32 × S)) :=
(fX7_trays a2.2).bind fun q208 =>
if q208 ≤ a2.1 then
(some (.inl (a2.1, a2.2)))
else
(gd (inb a2.1 12) <|
gd (inb a2.1 12) <|
nm (up a2.2 5 a2.1.toNatClampNeg (a2.2.1 4 a2.1.toNatClampNeg)) fun u209 =>
some (.inr (a2.1 + 1, u209)))
def gX7_ordersBest_27  (a1 : Int32 × Int32 × S) : Option ((Int32 × Int32 × S) ⊕ (Int32 × Int32 × S)) :=
if a1.2.1 = 0 then
(some (.inl (a1.1, a1.2.1, a1.2.2)))
else
((fX7_packs a1.2.2).bind fun q104 =>
if a1.1 = 0 then
((fX7_isBetter q104).bind fun q112 =>
if q112 = 0 then
((fX7_ordersNext q104).bind fun q113 =>
some (.inr (0, q113.1, q113.2)))
else
((lp (gX7_ordersBest_48 ) FU (0, q104)).bind fun e114 =>
(lp (gX7_ordersBest_72 ) FU (0, e114.2)).bind fun e117 =>
(fX7_ordersNext e117.2).bind fun q120 =>
some (.inr (0, q120.1, q120.2))))
else
((lp (gX7_ordersBest_48 ) FU (0, q104)).bind fun e105 =>
(lp (gX7_ordersBest_72 ) FU (0, e105.2)).bind fun e108 =>
(fX7_ordersNext e108.2).bind fun q111 =>
some (.inr (0, q111.1, q111.2))))
def gX7_ordersBest_110  (a1 : Int32 × S) : Option ((Int32 × S) ⊕ (Int32 × S)) :=
(fX7_trays a1.2).bind fun q122 =>
if q122 ≤ a1.1 then
(some (.inl (a1.1, a1.2)))
else
(gd (inb a1.1 12) <|
gd (inb a1.1 12) <|
nm (up a1.2 4 a1.1.toNatClampNeg (a1.2.1 5 a1.1.toNatClampNeg)) fun u123 =>
some (.inr (a1.1 + 1, u123)))
def fX7_ordersBest  (u : S) : Option (S) :=
(lp (gX7_ordersBest_2 ) FU (0, u)).bind fun e1 =>
(lp (gX7_ordersBest_27 ) FU (1, 1, e1.2)).bind fun e4 =>
(lp (gX7_ordersBest_110 ) FU (0, e4.2.2)).bind fun e22 =>
some e22.2
/-- TrayBoxModel.pack()I -/
def fX7_pack  (u : S) : Option (Int32 × S) :=
(fX7_records u).bind fun q1 =>
(fX7_ordersUsually q1).bind fun q2 =>
(fX7_packs q2).bind fun q3 =>
(fX7_comesTo 0 q3).bind fun q4 =>
some (q4, q3)
/-- TrayBoxModel.packBest()I -/
def fX7_packBest  (u : S) : Option (Int32 × S) :=
(fX7_trays u).bind fun q1 =>
if q1 ≤ 5 then
((fX7_records u).bind fun q2 =>
(fX7_ordersBest q2).bind fun q3 =>
(fX7_packs q3).bind fun q4 =>
(fX7_comesTo 0 q4).bind fun q5 =>
some (q5, q4))
else
(some ((-2), u))
/-- TrayBoxModel.ifPacked(ZI)I -/
def fX7_ifPacked (v1 : Int32) (v2 : Int32) (u : S) : Option (Int32 × S) :=
if v2 < 0 then
(some ((-1), u))
else
((fX7_in v2 4 9 u).bind fun q1 =>
if q1 = 0 then
(if v1 = 0 then
(if v2 < 10 then
((fX7_copies 0 10 u).bind fun q2 =>
if v1 = 0 then
((fX7_ordersUsually q2).bind fun q3 =>
(fX7_packs q3).bind fun q4 =>
if v2 < 10 then
((fX7_comesTo v2 q4).bind fun q5 =>
(fX7_copies 10 0 q4).bind fun q6 =>
some (q5, q6))
else
(gd (inb (v2 - 10) 12) <|
(fX7_copies 10 0 q4).bind fun q7 =>
some (q4.1 4 (v2 - 10).toNatClampNeg, q7)))
else
((fX7_ordersBest q2).bind fun q8 =>
(fX7_packs q8).bind fun q9 =>
if v2 < 10 then
((fX7_comesTo v2 q9).bind fun q10 =>
(fX7_copies 10 0 q9).bind fun q11 =>
some (q10, q11))
else
(gd (inb (v2 - 10) 12) <|
(fX7_copies 10 0 q9).bind fun q12 =>
some (q9.1 4 (v2 - 10).toNatClampNeg, q12))))
else
((fX7_trays u).bind fun q13 =>
if (v2 - 10) < q13 then
((fX7_copies 0 10 u).bind fun q14 =>
if v1 = 0 then
((fX7_ordersUsually q14).bind fun q15 =>
(fX7_packs q15).bind fun q16 =>
if v2 < 10 then
((fX7_comesTo v2 q16).bind fun q17 =>
(fX7_copies 10 0 q16).bind fun q18 =>
some (q17, q18))
else
(gd (inb (v2 - 10) 12) <|
(fX7_copies 10 0 q16).bind fun q19 =>
some (q16.1 4 (v2 - 10).toNatClampNeg, q19)))
else
((fX7_ordersBest q14).bind fun q20 =>
(fX7_packs q20).bind fun q21 =>
if v2 < 10 then
((fX7_comesTo v2 q21).bind fun q22 =>
(fX7_copies 10 0 q21).bind fun q23 =>
some (q22, q23))
else
(gd (inb (v2 - 10) 12) <|
(fX7_copies 10 0 q21).bind fun q24 =>
some (q21.1 4 (v2 - 10).toNatClampNeg, q24))))
else
(some ((-9), u))))
else
((fX7_trays u).bind fun q25 =>
if q25 ≤ 5 then
(if v2 < 10 then
((fX7_copies 0 10 u).bind fun q26 =>
if v1 = 0 then
((fX7_ordersUsually q26).bind fun q27 =>
(fX7_packs q27).bind fun q28 =>
if v2 < 10 then
((fX7_comesTo v2 q28).bind fun q29 =>
(fX7_copies 10 0 q28).bind fun q30 =>
some (q29, q30))
else
(gd (inb (v2 - 10) 12) <|
(fX7_copies 10 0 q28).bind fun q31 =>
some (q28.1 4 (v2 - 10).toNatClampNeg, q31)))
else
((fX7_ordersBest q26).bind fun q32 =>
(fX7_packs q32).bind fun q33 =>
if v2 < 10 then
((fX7_comesTo v2 q33).bind fun q34 =>
(fX7_copies 10 0 q33).bind fun q35 =>
some (q34, q35))
else
(gd (inb (v2 - 10) 12) <|
(fX7_copies 10 0 q33).bind fun q36 =>
some (q33.1 4 (v2 - 10).toNatClampNeg, q36))))
else
((fX7_trays u).bind fun q37 =>
if (v2 - 10) < q37 then
((fX7_copies 0 10 u).bind fun q38 =>
if v1 = 0 then
((fX7_ordersUsually q38).bind fun q39 =>
(fX7_packs q39).bind fun q40 =>
if v2 < 10 then
((fX7_comesTo v2 q40).bind fun q41 =>
(fX7_copies 10 0 q40).bind fun q42 =>
some (q41, q42))
else
(gd (inb (v2 - 10) 12) <|
(fX7_copies 10 0 q40).bind fun q43 =>
some (q40.1 4 (v2 - 10).toNatClampNeg, q43)))
else
((fX7_ordersBest q38).bind fun q44 =>
(fX7_packs q44).bind fun q45 =>
if v2 < 10 then
((fX7_comesTo v2 q45).bind fun q46 =>
(fX7_copies 10 0 q45).bind fun q47 =>
some (q46, q47))
else
(gd (inb (v2 - 10) 12) <|
(fX7_copies 10 0 q45).bind fun q48 =>
some (q45.1 4 (v2 - 10).toNatClampNeg, q48))))
else
(some ((-9), u))))
else
(some ((-2), u))))
else
(some ((-1), u)))
/-- TrayBoxModel.gets(I)I -/
def gX7_gets_33 (v4 : Int32) (a2 : Int32 × S) : Option ((Int32 × S) ⊕ (Int32 × S)) :=
if a2.1 ≤ 0 then
(some (.inl (a2.1, a2.2)))
else
(gd (inb (a2.1 - 1) 12) <|
(fX7_of (a2.2.1 7 (a2.1 - 1).toNatClampNeg) 9 a2.2).bind fun q203 =>
(fX7_of v4 9 a2.2).bind fun q204 =>
if q203 ≤ q204 then
(some (.inl (a2.1, a2.2)))
else
(gd (inb (a2.1 - 1) 12) <|
gd (inb a2.1 12) <|
nm (up a2.2 7 a2.1.toNatClampNeg (a2.2.1 7 (a2.1 - 1).toNatClampNeg)) fun u205 =>
some (.inr (a2.1 + (-1), u205))))
def gX7_gets_11 (v2 : Int32) (a1 : Int32 × Int32 × S) : Option ((Int32 × Int32 × S) ⊕ (Int32 × Int32 × S)) :=
(fX7_trays a1.2.2).bind fun q102 =>
if q102 ≤ a1.2.1 then
(some (.inl (a1.1, a1.2.1, a1.2.2)))
else
(if ((v2 >>> (a1.2.1 &&& 31)) &&& 1) = 1 then
((lp (gX7_gets_33 a1.2.1) FU (a1.1, a1.2.2)).bind fun e103 =>
gd (inb e103.1 12) <|
nm (up e103.2 7 e103.1.toNatClampNeg a1.2.1) fun u107 =>
some (.inr (a1.1 + 1, a1.2.1 + 1, u107)))
else
(some (.inr (a1.1, a1.2.1 + 1, a1.2.2))))
def gX7_gets_112 (v3 : Int32) (a1 : Int32 × S) : Option ((Int32 × S) ⊕ (Int32 × S)) :=
if v3 ≤ a1.1 then
(some (.inl (a1.1, a1.2)))
else
(gd (inb a1.1 12) <|
(fX7_sets (a1.2.1 7 a1.1.toNatClampNeg) 5 0 a1.2).bind fun q110 =>
some (.inr (a1.1 + 1, q110)))
def gX7_gets_140 (v3 : Int32) (a1 : Int32 × S) : Option ((Int32 × S) ⊕ (Int32 × S)) :=
if v3 ≤ a1.1 then
(some (.inl (a1.1, a1.2)))
else
(gd (inb a1.1 12) <|
gd (inb a1.1 12) <|
(fX7_of (a1.2.1 7 a1.1.toNatClampNeg) 7 a1.2).bind fun q112 =>
gd (inb a1.1 12) <|
(fX7_of (a1.2.1 7 a1.1.toNatClampNeg) 8 a1.2).bind fun q113 =>
gd (inb a1.1 12) <|
(fX7_of (a1.2.1 7 a1.1.toNatClampNeg) 6 a1.2).bind fun q114 =>
(fX7_comes (a1.2.1 7 a1.1.toNatClampNeg) q112 q113 q114 a1.2).bind fun q115 =>
some (.inr (a1.1 + 1, q115)))
def fX7_gets (v1 : Int32) (u : S) : Option (Int32 × S) :=
(fX7_above v1 u).bind fun q1 =>
(lp (gX7_gets_11 q1) FU (0, 0, u)).bind fun e2 =>
(fX7_leaves v1 e2.2.2).bind fun q9 =>
(lp (gX7_gets_112 e2.1) FU (0, q9)).bind fun e10 =>
(lp (gX7_gets_140 e2.1) FU (0, e10.2)).bind fun e12 =>
some (e2.1, e12.2)
/-- TrayBoxModel.plays(I)I -/
def gX7_plays_17 (v1 : Int32) (v4 : Int32) (a2 : Int32 × Int32 × Int32 × S) : Option ((Int32 × Int32 × Int32 × S) ⊕ (Int32 × Int32 × Int32 × S)) :=
(fX7_trays a2.2.2.2).bind fun q201 =>
if q201 ≤ a2.2.2.1 then
(some (.inl (a2.1, a2.2.1, a2.2.2.1, a2.2.2.2)))
else
(if a2.2.1 = 0 then
(some (.inr (a2.1, a2.2.1, a2.2.2.1 + 1, a2.2.2.2)))
else
((fX7_isIn a2.2.2.1 a2.2.2.2).bind fun q202 =>
if q202 = 0 then
(some (.inr (a2.1, a2.2.1, a2.2.2.1 + 1, a2.2.2.2)))
else
((fX7_of a2.2.2.1 3 a2.2.2.2).bind fun q203 =>
if q203 = v4 then
((fX7_gets a2.2.2.1 a2.2.2.2).bind fun q204 =>
if a2.2.2.1 = v1 then
(some (.inr (a2.1 + q204.1, 0, a2.2.2.1 + 1, q204.2)))
else
(some (.inr (a2.1 + q204.1, 1, a2.2.2.1 + 1, q204.2))))
else
(some (.inr (a2.1, a2.2.1, a2.2.2.1 + 1, a2.2.2.2))))))
def gX7_plays_7 (v1 : Int32) (a1 : Int32 × Int32 × Int32 × S) : Option ((Int32 × Int32 × Int32 × S) ⊕ (Int32 × Int32 × Int32 × S)) :=
if 10 ≤ a1.2.2.1 then
(some (.inl (a1.1, a1.2.1, a1.2.2.1, a1.2.2.2)))
else
((lp (gX7_plays_17 v1 a1.2.2.1) FU (a1.1, a1.2.1, 0, a1.2.2.2)).bind fun e101 =>
some (.inr (e101.1, e101.2.1, a1.2.2.1 + 1, e101.2.2.2)))
def fX7_plays (v1 : Int32) (u : S) : Option (Int32 × S) :=
(lp (gX7_plays_7 v1) FU (0, 1, 0, u)).bind fun e1 =>
some (e1.1, e1.2.2.2)
/-- TrayBoxModel.play()I -/
def fX7_play  (u : S) : Option (Int32 × S) :=
(fX7_records u).bind fun q1 =>
(fX7_plays (-9) q1).bind fun q2 =>
some (q2.1, q2.2)
/-- TrayBoxModel.liftsTo(I)I -/
def fX7_liftsTo (v1 : Int32) (u : S) : Option (Int32 × S) :=
(fX7_isTray v1 u).bind fun q1 =>
if q1 = 0 then
(some ((-1), u))
else
((fX7_isIn v1 u).bind fun q2 =>
if q2 = 0 then
(some ((-2), u))
else
((fX7_copies 0 10 u).bind fun q3 =>
(fX7_plays v1 q3).bind fun q4 =>
(fX7_copies 10 0 q4.2).bind fun q5 =>
some (q4.1, q5)))
/-- TrayBoxModel.count(I)I -/
def fX7_count (v1 : Int32) (u : S) : Option (Int32) :=
if v1 = 0 then
(gd (inb v1 1375) <|
some (u.1 1 v1.toNatClampNeg))
else
(if v1 = 1 then
(gd (inb v1 1375) <|
some (u.1 1 v1.toNatClampNeg))
else
(if v1 = 2 then
(gd (inb v1 1375) <|
some (u.1 1 v1.toNatClampNeg))
else
(if v1 = 3 then
(gd (inb v1 1375) <|
some (u.1 1 v1.toNatClampNeg))
else
(if v1 = 4 then
(gd (inb v1 1375) <|
some (u.1 1 v1.toNatClampNeg))
else
(if v1 = 5 then
((fX7_inBox u).bind fun q1 =>
some q1)
else
(if v1 = 6 then
((fX7_frees u).bind fun q2 =>
some q2)
else
(if v1 = 7 then
((fX7_boxHeight u).bind fun q3 =>
some q3)
else
(if v1 = 8 then
((fX7_air u).bind fun q4 =>
some q4)
else
(if v1 = 9 then
((fX7_faults u).bind fun q5 =>
some q5)
else
(if v1 = 10 then
((fX7_lifts u).bind fun q6 =>
some q6)
else
(if v1 = 11 then
(some (u.1 0 6))
else
(if v1 = 12 then
(some (u.1 0 1))
else
(some (-1))))))))))))))
/-- TrayBoxModel.mixes(I)V -/
def fX7_mixes (v1 : Int32) (u : S) : Option (S) :=
nm (uh u ((31 * u.2) + v1.toInt64)) fun u1 =>
some u1
/-- TrayBoxModel.digest()J -/
def gX7_digest_9  (a1 : Int32 × S) : Option ((Int32 × S) ⊕ (Int32 × S)) :=
if 13 ≤ a1.1 then
(some (.inl (a1.1, a1.2)))
else
((fX7_count a1.1 a1.2).bind fun q102 =>
(fX7_mixes q102 a1.2).bind fun q103 =>
some (.inr (a1.1 + 1, q103)))
def gX7_digest_42 (v1 : Int32) (a2 : Int32 × S) : Option ((Int32 × S) ⊕ (Int32 × S)) :=
if 16 ≤ a2.1 then
(some (.inl (a2.1, a2.2)))
else
((fX7_tray v1 a2.1 a2.2).bind fun q206 =>
(fX7_mixes q206 a2.2).bind fun q207 =>
some (.inr (a2.1 + 1, q207)))
def gX7_digest_32  (a1 : Int32 × S) : Option ((Int32 × S) ⊕ (Int32 × S)) :=
(fX7_trays a1.2).bind fun q105 =>
if q105 ≤ a1.1 then
(some (.inl (a1.1, a1.2)))
else
((lp (gX7_digest_42 a1.1) FU (0, a1.2)).bind fun e106 =>
(fX7_place a1.1 0 e106.2).bind fun q109 =>
(fX7_mixes q109.1 q109.2).bind fun q110 =>
(fX7_place a1.1 3 q110).bind fun q111 =>
(fX7_mixes q111.1 q111.2).bind fun q112 =>
some (.inr (a1.1 + 1, q112)))
def gX7_digest_104 (v1 : Int32) (a2 : Int32 × S) : Option ((Int32 × S) ⊕ (Int32 × S)) :=
gd (inb 1 1375) <|
if (a2.2.1 1 (1 : Int32).toNatClampNeg) ≤ a2.1 then
(some (.inl (a2.1, a2.2)))
else
((fX7_seen v1 a2.1 0 a2.2).bind fun q214 =>
(fX7_mixes q214 a2.2).bind fun q215 =>
(fX7_seen v1 a2.1 1 q215).bind fun q216 =>
(fX7_mixes q216 q215).bind fun q217 =>
some (.inr (a2.1 + 1, q217)))
def gX7_digest_92  (a1 : Int32 × S) : Option ((Int32 × S) ⊕ (Int32 × S)) :=
gd (inb 0 1375) <|
if (a1.2.1 1 (0 : Int32).toNatClampNeg) ≤ a1.1 then
(some (.inl (a1.1, a1.2)))
else
((lp (gX7_digest_104 a1.1) FU (0, a1.2)).bind fun e114 =>
some (.inr (a1.1 + 1, e114.2)))
def gX7_digest_150  (a1 : Int32 × S) : Option ((Int32 × S) ⊕ (Int32 × S)) :=
if 4 ≤ a1.1 then
(some (.inl (a1.1, a1.2)))
else
((fX7_ifPacked 0 a1.1 a1.2).bind fun q120 =>
(fX7_mixes q120.1 q120.2).bind fun q121 =>
some (.inr (a1.1 + 1, q121)))
def gX7_digest_173  (a1 : Int32 × S) : Option ((Int32 × S) ⊕ (Int32 × S)) :=
(fX7_trays a1.2).bind fun q123 =>
if q123 ≤ a1.1 then
(some (.inl (a1.1, a1.2)))
else
((fX7_isIn a1.1 a1.2).bind fun q124 =>
if q124 = 0 then
(some (.inr (a1.1 + 1, a1.2)))
else
((fX7_liftsTo a1.1 a1.2).bind fun q125 =>
(fX7_mixes q125.1 q125.2).bind fun q126 =>
some (.inr (a1.1 + 1, q126))))
def fX7_digest  (u : S) : Option (Int64 × S) :=
nm (uh u 43160) fun u1 =>
(lp (gX7_digest_9 ) FU (0, u1)).bind fun e2 =>
(lp (gX7_digest_32 ) FU (0, e2.2)).bind fun e5 =>
(lp (gX7_digest_92 ) FU (0, e5.2)).bind fun e14 =>
(lp (gX7_digest_150 ) FU (0, e14.2)).bind fun e20 =>
(lp (gX7_digest_173 ) FU (0, e20.2)).bind fun e23 =>
some (e23.2.2, e23.2)
