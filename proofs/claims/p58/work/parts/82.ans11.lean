def cdI (k : Nat) : Int := k

