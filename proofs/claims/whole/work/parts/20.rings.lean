/-! PURE: byRounds, by evaluation -/
def z0 : HM := (fun _ => none, 0)
theorem br_x (s : HM) (a : Nat) (p q : Int32) : f10_byRounds s a p q = f10_byRounds z0 0 p q := rfl
theorem br_m (s : HM) (a : Nat) (p q : Int32) : f11_byRounds s a p q = f11_byRounds z0 0 p q := rfl
def brOk (p q : Int32) : Bool := (f10_byRounds z0 0 p q).isSome && decide (f10_byRounds z0 0 p q = f11_byRounds z0 0 p q)
theorem br_3 : (brOk 3 1 && brOk 3 2) = true := by decide +kernel
theorem br_5 : (brOk 5 1 && brOk 5 2) = true := by decide +kernel
theorem br_7 : (brOk 7 1 && brOk 7 2) = true := by decide +kernel
theorem br_9 : (brOk 9 1 && brOk 9 2) = true := by decide +kernel
theorem br_11 : (brOk 11 1 && brOk 11 2) = true := by decide +kernel
theorem br_13 : (brOk 13 1 && brOk 13 2) = true := by decide +kernel
theorem br_15 : (brOk 15 1 && brOk 15 2) = true := by decide +kernel
theorem br_17 : (brOk 17 1 && brOk 17 2) = true := by decide +kernel
theorem br_19 : (brOk 19 1 && brOk 19 2) = true := by decide +kernel
