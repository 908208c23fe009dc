theorem zz_look : (2 : Nat) = 2 := rfl
