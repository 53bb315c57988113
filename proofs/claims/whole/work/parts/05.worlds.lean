/-! what a state is -/
abbrev wIm (cI cZ : ClassId) (h a b : Nat) (n : Nat) (v : Nat → Int) (f : Nat → Bool) : va_W := [(h, .inr (3, [.ref a, .ref b, .int (iI ((n : Nat) : Int))])), (a, .inl (cI, 48, .inl (aI v))), (b, .inl (cZ, 48, .inl (aB f)))]
def vAt (n : Nat) (v : Nat → Int) (x : Int) : Int := if 0 ≤ x ∧ x < ((n : Nat) : Int) then v x.toNat else 0
def fAt (n : Nat) (f : Nat → Bool) (x : Int) : Bool := decide (0 ≤ x ∧ x < ((n : Nat) : Int)) && f x.toNat
