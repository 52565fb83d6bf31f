/-! parts of a state -/
def mgS (M : Nat) (u q : S) : S := (fun j k => if j < M then q.1 j k else u.1 j k, u.2)
def shS (o : Nat) (u : S) : S := (fun j k => u.1 (o + j) k, u.2)
def ptS (o M : Nat) (u q : S) : S := (fun j k => if o ≤ j ∧ j < o + M then q.1 (j - o) k else u.1 j k, u.2)
def zrS (j : Nat) (u : S) : S := (fun a b => if a = j then 0 else u.1 a b, u.2)
/-- the class's state at first -/
def u0 : S := (fun j k => if 132 ≤ j ∧ j < 143 then (if k = 0 then 6 else if k = 1 then 6 else if k = 2 then 12 else if k = 3 then 50 else 0) else 0, 0)
/-- another of the class is born, as cells 168 on -/
def niS (u : S) : S := (fun j k => if 168 ≤ j ∧ j < 336 then u0.1 (j - 168) k else u.1 j k, u.2)
