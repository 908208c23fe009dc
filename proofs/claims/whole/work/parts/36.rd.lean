/-! PURE: round, by evaluation -/
/-- the set that these upper bits tell -/
def d_hs (h u : Nat) : Int32 := d_mk (2 * h + 1) (fun d => if h < d then u.testBit (d - h - 1) else if d = 0 then false else !u.testBit (h - d))
def d_rdOk (h u : Nat) : Bool := (f10_isLawfulRing (Int32.ofNat (2 * h + 1)) (d_hs h u) 1).isSome && (f10_isLawfulRing (Int32.ofNat (2 * h + 1)) (d_hs h u) 2).isSome && decide (f10_isLawfulRing (Int32.ofNat (2 * h + 1)) (d_hs h u) 1 = f11_isRoundWell (Int32.ofNat (2 * h + 1)) (d_hs h u) 1) && decide (f10_isLawfulRing (Int32.ofNat (2 * h + 1)) (d_hs h u) 2 = f11_isRoundWell (Int32.ofNat (2 * h + 1)) (d_hs h u) 2)
set_option maxRecDepth 100000 in
theorem d_rd_all : (List.range 10).all (fun h => (List.range (2 ^ h)).all (fun u => d_rdOk h u)) = true := by decide +kernel
