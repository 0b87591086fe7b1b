/-! LAYER 3: the orders as numbers: what a program decides of all 5040 -/
def goodO (c : Nat) : Bool := decide (c < 2097152) && (List.range 7).all (fun d => decide (pl c d < 7) && (decide (dg c d < 7) && (pl c (dg c d) == d)))
theorem allOrd_len : allOrd.length = 5040 := by decide +kernel
/-- orderOf, in steps over Nat with all its bounds looked at -/
def nbO (left : Nat) : Nat → Nat → Nat → Option Nat
  | 0, _, _ => none
  | f + 1, nth, day => if left.testBit day && nth == 0 then some day else nbO left f (if left.testBit day then nth - 1 else nth) (day + 1)
def oStep (k : Nat) (s : Nat × Nat × Nat × Nat) : Option (Nat × Nat × Nat × Nat) :=
  if s.1 < 5040 ∧ s.2.1 ≤ 5040 ∧ s.2.2.1 < 128 ∧ s.2.2.2 < 262144 ∧ 0 < s.2.1 / (7 - k) then
    (nbO s.2.2.1 7 (s.1 / (s.2.1 / (7 - k))) 0).bind fun d => if s.2.2.1.testBit d then some (s.1 % (s.2.1 / (7 - k)), s.2.1 / (7 - k), s.2.2.1 - 1 <<< d, s.2.2.2 <<< 3 ||| d) else none
  else none
def oS (v : Nat) : Nat → Option (Nat × Nat × Nat × Nat)
  | 0 => some (v, 5040, 127, 0)
  | k + 1 => (oS v k).bind (oStep k)
def ordO (v : Nat) : Option Nat := (oS v 7).map (fun s => s.2.2.2)
