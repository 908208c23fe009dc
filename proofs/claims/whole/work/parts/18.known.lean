/-! WHAT IS KNOWN AT THE LAW'S START -/
def gvC : Cond := Jvm.Cond.and given_1 narrow_1
def hA0 (s : State) : Nat → Prop := fun q => s.heap.size ≤ q
theorem ka_str : ∀ q ∈ kyS, Cond.stringRef q.1 q.2.1 q.2.2 ∈ lw_tbl := by decide +kernel
theorem ka_ex : ∀ q ∈ kyS, Cond.exactly (.string q.1 q.2.1) "java/lang/String" ∈ flatC gvC := by decide +kernel
theorem ka_nc : ∀ q ∈ kyN, Cond.not (.castable q.1 q.2) ∈ flatC gvC := by decide +kernel
theorem ka_w : ∀ w ∈ kyW, w ∈ lw_tbl := by decide +kernel
theorem ky_at {s : State} {b : Nat} (hts : ∀ w ∈ lw_tbl, w.before #[Value.ref b] s = true) (hgv : gvC.before #[Value.ref b] s = true) : KY (hA0 s) s := by
  have hs := flat_of_before _ hgv
  have hA : ∀ q : Nat, q < s.heap.size → ¬ hA0 s q := fun q h => Nat.not_le.mpr h
  refine ⟨vx_Zqof (hts (.laysStatic Bundle.tN "UNASSIGNED_STACK" Bundle.steD) (by decide +kernel)) (hts (.initialized Bundle.tN) (by decide +kernel)) (hs (.isRef (.static Bundle.tN "UNASSIGNED_STACK" Bundle.steD)) (by decide +kernel)) hA, vx_Zqof (hts (.laysStatic Bundle.tN "SUPPRESSED_SENTINEL" Bundle.listD) (by decide +kernel)) (hts (.initialized Bundle.tN) (by decide +kernel)) (hs (.isRef (.static Bundle.tN "SUPPRESSED_SENTINEL" Bundle.listD)) (by decide +kernel)) hA, fun q hq => ?_, fun q hq => va_Nc.of (hs _ (ka_nc q hq)), fun w hw => ?_⟩
  · have h1 := hts _ (ka_str q hq)
    have h2 := hs _ (ka_ex q hq)
    obtain ⟨sa, c, cell, kk, hsa, -⟩ := Cond.exactly_spec h2
    exact ⟨sa, vk_R.of h1 hsa⟩
  · have h6 := hts _ (ka_w w hw)
    rcases kyW_k w hw with ⟨C, T, rfl⟩ | ⟨z, rfl⟩
    · exact va_Nw.of rfl h6
    · exact va_Nw.of rfl h6
theorem ka_nw : ∀ w ∈ NWs, w ∈ lw_tbl := by decide +kernel
theorem ka_L : ∀ j, j < 28 → Cond.eq (.elem (.static "OneBeatsBoth" "LESSER" "[I") (.int (Int32.ofNat j))) (.int (tbL j)) ∈ flatC gvC := by decide +kernel
theorem ka_G : ∀ j, j < 28 → Cond.eq (.elem (.static "OneBeatsBoth" "GREATER" "[I") (.int (Int32.ofNat j))) (.int (tbG j)) ∈ flatC gvC := by decide +kernel
theorem ka_arr {s : State} {b : Nat} (C : String) (h : (Cond.arrayOver (.object C)).before #[Value.ref b] s = true) : ∃ cA : ClassId, ArrOfT s cA (.object C) ∧ va_RA s cA (.object C) := by
  obtain ⟨comp, c, k, h1, h2, h3, h4, h5⟩ := Cond.arrayOver_spec h
  exact ⟨c, fun n z => ⟨fun k h => (by cases h), k, h3, comp, h4⟩, k, comp, h3, h4, h1, h5⟩
theorem ka_int {s : State} {b : Nat} (h : (Cond.arrayClass .int).before #[Value.ref b] s = true) : ∃ cA : ClassId, ArrOfT s cA .int ∧ va_RA s cA .int := by
  obtain ⟨c, k, comp, h1, h2, h3⟩ := Cond.arrayClass_spec h
  exact ⟨c, fun n z => ⟨fun k h => (by cases h), k, h2, comp, h3⟩, h1⟩
theorem ka_long {s : State} {b : Nat} (h : (Cond.arrayClass .long).before #[Value.ref b] s = true) : ∃ cA : ClassId, ArrOfT s cA .long ∧ s.vm.findClass ("[" ++ (FieldType.long).toString) = some cA := by
  obtain ⟨c, k, comp, h1, h2, h3⟩ := Cond.arrayClass_spec h
  exact ⟨c, fun n z => ⟨fun k h => (by cases h), k, h2, comp, h3⟩, h1⟩
theorem kx_at {s : State} {b : Nat} (hts : ∀ w ∈ lw_tbl, w.before #[Value.ref b] s = true) (hgv : gvC.before #[Value.ref b] s = true) : ∃ (dC : Nat → ClassId) (dI : Nat → Nat → Nat) (cI : ClassId) (cR : Nat → ClassId) (tL tG : Nat), ∀ f : Bool, KX (dC, dI, cI, cR, tL, tG, f) (hA0 s) s := by
  have hs := flat_of_before _ hgv
  have hA : ∀ q : Nat, q < s.heap.size → ¬ hA0 s q := fun q h => Nat.not_le.mpr h
  have good : ∀ w ∈ WT, w.before #[Value.ref b] s = true := fun w hw => hts w (List.mem_filter.mp hw).1
  have hex : ∀ c : Nat, ∃ (cC : ClassId) (iS : Nat → Nat), ∀ q : vw_C, vwCl[c]? = some q → u_Kn s q.1 q.2.1 q.2.2 cC iS := by
    intro c
    match c with
    | 0 => obtain ⟨cC, iS, h⟩ := u_known (n := 1) good ux_0 (hts (.instantiable RX0 1) (by decide +kernel)); exact ⟨cC, iS, fun q hq => by cases hq; exact h⟩
    | 1 => obtain ⟨cC, iS, h⟩ := u_known (n := 1) good ux_1 (hts (.instantiable RX1 1) (by decide +kernel)); exact ⟨cC, iS, fun q hq => by cases hq; exact h⟩
    | 2 => obtain ⟨cC, iS, h⟩ := u_known (n := 4) good ux_2 (hts (.instantiable RX2 4) (by decide +kernel)); exact ⟨cC, iS, fun q hq => by cases hq; exact h⟩
    | 3 => obtain ⟨cC, iS, h⟩ := u_known (n := 1) good ux_3 (hts (.instantiable RX3 1) (by decide +kernel)); exact ⟨cC, iS, fun q hq => by cases hq; exact h⟩
    | 4 => obtain ⟨cC, iS, h⟩ := u_known (n := 1) good ux_4 (hts (.instantiable RX4 1) (by decide +kernel)); exact ⟨cC, iS, fun q hq => by cases hq; exact h⟩
    | 5 => obtain ⟨cC, iS, h⟩ := u_known (n := 1) good ux_5 (hts (.instantiable RX5 1) (by decide +kernel)); exact ⟨cC, iS, fun q hq => by cases hq; exact h⟩
    | 6 => obtain ⟨cC, iS, h⟩ := u_known (n := 1) good ux_6 (hts (.instantiable RX6 1) (by decide +kernel)); exact ⟨cC, iS, fun q hq => by cases hq; exact h⟩
    | 7 => obtain ⟨cC, iS, h⟩ := u_known (n := 1) good ux_7 (hts (.instantiable RX7 1) (by decide +kernel)); exact ⟨cC, iS, fun q hq => by cases hq; exact h⟩
    | 8 => obtain ⟨cC, iS, h⟩ := u_known (n := 2) good ux_8 (hts (.instantiable RX8 2) (by decide +kernel)); exact ⟨cC, iS, fun q hq => by cases hq; exact h⟩
    | 9 => obtain ⟨cC, iS, h⟩ := u_known (n := 1) good ux_9 (hts (.instantiable RX9 1) (by decide +kernel)); exact ⟨cC, iS, fun q hq => by cases hq; exact h⟩
    | 10 => obtain ⟨cC, iS, h⟩ := u_known (n := 8) good ux_10 (hts (.instantiable RX10 8) (by decide +kernel)); exact ⟨cC, iS, fun q hq => by cases hq; exact h⟩
    | 11 => obtain ⟨cC, iS, h⟩ := u_known (n := 19) good ux_11 (hts (.instantiable RX11 19) (by decide +kernel)); exact ⟨cC, iS, fun q hq => by cases hq; exact h⟩
    | c + 12 => exact ⟨0, fun _ => 0, fun q hq => by simp [vwCl] at hq⟩
  obtain ⟨dC, hd1⟩ := Classical.axiomOfChoice hex
  obtain ⟨dI, hd2⟩ := Classical.axiomOfChoice hd1
  obtain ⟨cI, hI1, hI2⟩ := ka_int (hts (.arrayClass .int) (by decide +kernel))
  obtain ⟨c0, h01, h02⟩ := ka_arr rK0 (hts (.arrayOver (.object rK0)) (by decide +kernel))
  obtain ⟨c1, h11, h12⟩ := ka_arr rK1 (hts (.arrayOver (.object rK1)) (by decide +kernel))
  obtain ⟨tL, hL1, hL2⟩ := va_Tof (f := fun j => .int (tbL j)) (N := 28) (A := hA0 s) (by decide) (hs (.arrayOf (.static "OneBeatsBoth" "LESSER" "[I") .int) (by decide +kernel)) (va_eqt (hs (.eq (.length (.static "OneBeatsBoth" "LESSER" "[I")) (.int 28)) (by decide +kernel))) (fun j hj => va_eqt (hs _ (ka_L j hj))) hA
  obtain ⟨tG, hG1, hG2⟩ := va_Tof (f := fun j => .int (tbG j)) (N := 28) (A := hA0 s) (by decide) (hs (.arrayOf (.static "OneBeatsBoth" "GREATER" "[I") .int) (by decide +kernel)) (va_eqt (hs (.eq (.length (.static "OneBeatsBoth" "GREATER" "[I")) (.int 28)) (by decide +kernel))) (fun j hj => va_eqt (hs _ (ka_G j hj))) hA
  refine ⟨dC, dI, cI, fun k => if k = 0 then c0 else c1, tL, tG, fun f => ⟨⟨fun c q hq => hd2 c q hq, fun k q hk => ?_⟩, va_Zof (hts (.laysStatic "OneBeatsBoth" "LESSER" "[I") (by decide +kernel)) (hts (.initialized "OneBeatsBoth") (by decide +kernel)) hL1 hA, va_Zof (hts (.laysStatic "OneBeatsBoth" "GREATER" "[I") (by decide +kernel)) (hts (.initialized "OneBeatsBoth") (by decide +kernel)) hG1 hA, hL2, hG2, fun w hw => nw_of (nws_k w hw) (hts w (ka_nw w hw))⟩⟩
  match k, hk with
  | 0, hk => cases hk; exact ⟨hI1, hI2⟩
  | 1, hk => cases hk; exact ⟨h01, h02⟩
  | 2, hk => cases hk; exact ⟨h11, h12⟩
  | k + 3, hk => simp at hk
