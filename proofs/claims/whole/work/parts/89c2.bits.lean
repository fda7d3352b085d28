theorem n64_add (a b : Nat) : n64 a + n64 b = n64 (a + b) := (Int64.ofNat_add a b).symm
theorem n64_sub {a b : Nat} (h : b ≤ a) : n64 a - n64 b = n64 (a - b) := (Int64.ofNat_sub a b h).symm
