def gL_law_35 (L : Nat) (xs : Nat → Int32) (v2 : Int32) (a1 : Int32 × S) : Option (((Int32 × S) ⊕ (Int32 × S)) ⊕ (Int32 × S)) :=
if 12 ≤ a1.1 then
(some (.inl (.inr (a1.1, a1.2))))
else
((fL_cell L xs (9 + a1.1) a1.2).bind fun q104 =>
(fL_turn q104 a1.2).bind fun q105 =>
if q105.1 = 0 then
(some (.inl (.inl ((0 : Int32), q105.2))))
else
((fL_told q105.2).bind fun q106 =>
if q106.1 = 0 then
(some (.inl (.inl ((0 : Int32), q106.2))))
else
((fL_low (q104 >>> (15 &&& 31)) v2 q106.2).bind fun q107 =>
(fL_placed q107 q106.2).bind fun q108 =>
if q108.1 = 0 then
(some (.inl (.inl ((0 : Int32), q108.2))))
else
(some (.inr (a1.1 + 1, q108.2))))))
def fL_law (L : Nat) (xs : Nat → Int32) (u : S) : Option (Int32 × S) :=
(fL_cell L xs 0 u).bind fun q1 =>
(fL_low q1 7 u).bind fun q2 =>
(fL_setUp L xs 1 (1 + q2) u).bind fun q3 =>
if q3.1 = 0 then
(some ((0 : Int32), q3.2))
else
((lp (gL_law_35 L xs (1 + q2)) FU (0, q3.2)).bind (Sum.elim (fun x => some x) fun e4 =>
(fL_packed e4.2).bind fun q10 =>
if q10.1 = 0 then
(some ((0 : Int32), q10.2))
else
((fL_told q10.2).bind fun q11 =>
if q11.1 = 0 then
(some ((0 : Int32), q11.2))
else
((fX6_undo q11.2).bind fun q12 =>
if q12.1 < 0 then
(some ((0 : Int32), q12.2))
else
((fL_told q12.2).bind fun q13 =>
if q13.1 = 0 then
(some ((0 : Int32), q13.2))
else
(some ((1 : Int32), q13.2)))))))
