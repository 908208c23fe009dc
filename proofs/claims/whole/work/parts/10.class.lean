/-! METHODS (by program): what each does, and that its bytecode does it -/
theorem b_c10_isLaw_0_2 : bdec cX10_isLaw 0 [.iload_n 0, .iconst 1] = true := by decide +kernel
theorem d_c10_isLaw_2 : decode cX10_isLaw 2 = .ok (.if_icmp .eq 8, 3) := by decide +kernel
theorem b_c10_isLaw_10_1 : bdec cX10_isLaw 10 [.iconst 1] = true := by decide +kernel
theorem d_c10_isLaw_11 : decode cX10_isLaw 11 = .ok (.goto 4, 3) := by decide +kernel
theorem d_c10_isLaw_15 : decode cX10_isLaw 15 = .ok (.ireturn, 1) := by decide +kernel
theorem b_c10_isLaw_5_2 : bdec cX10_isLaw 5 [.iload_n 0, .iconst 2] = true := by decide +kernel
theorem d_c10_isLaw_7 : decode cX10_isLaw 7 = .ok (.if_icmp .ne 7, 3) := by decide +kernel
theorem b_c10_isLaw_14_1 : bdec cX10_isLaw 14 [.iconst 0] = true := by decide +kernel
def f10_isLaw (p0 : Int32) : Option (Int32) := if p0 = (Int32.ofInt 1) then (some (Int32.ofInt 1)) else (if p0 = (Int32.ofInt 2) then (some (Int32.ofInt 1)) else (some (Int32.ofInt 0)))
set_option maxRecDepth 100000 in
set_option maxHeartbeats 4000000 in
theorem c10_isLaw (l : Launch) (κ : KP) (A : Nat → Prop) (HP : Heap → Prop) (p0 : Int32) {res : Int32} (hF : f10_isLaw p0 = some res) : Met l yX10_isLaw (Cond.code yX10_isLaw cX10_isLaw 1 (some .boolean) :: WT) (rmL 0 0 0) (PP κ A [.int p0] HP) (QQ (some (.int res)) HP A) 0 0 A := by
  refine met_of (own := RX10) (by decide) rfl (Nat.le_of_ble_eq_true rfl) ?_
  intro Γ E hQ hL hR hA hent hini
  have hAA : ∀ q, A q → jA Γ q := fun q h => by rw [hA]; exact h
  have hroom : ∀ (d mL : Nat) {mc ms : Nat}, d < 0 → mL ≤ 21 → (rmL d mc ms).frames + 1 ≤ (jR Γ).frames ∧ 8 + (mL + 11) + (rmL d mc ms).locals ≤ (jR Γ).locals := fun d mL mc ms h1 h2 => by rw [hR]; exact rmL_le h1 h2
  show J Γ 1 HP 0 0 0 [(0, .int p0)] []
  unfold f10_isLaw at hF
  refine j_blk (pc' := 2) (lv' := [(0, .int p0)]) (st' := [.int (Int32.ofInt 1), .int p0]) E b_c10_isLaw_0_2 rfl ?_
  refine j_icmp_eq (tgt := 10) E d_c10_isLaw_2 (by decide) (fun h1 => ?_) (fun h1 => ?_)
  · replace hF := g_t hF h1
    refine j_blk (pc' := 11) (lv' := [(0, .int p0)]) (st' := [.int (Int32.ofInt 1)]) E b_c10_isLaw_10_1 rfl ?_
    refine j_goto (tgt := 15) E d_c10_isLaw_11 (by decide) ?_
    have e : res = Int32.ofInt 1 := g_inj hF
    subst e
    exact j_zret E hQ nb_1 d_c10_isLaw_15 (fun _ h => h)
  · replace hF := g_f hF h1
    refine j_blk (pc' := 7) (lv' := [(0, .int p0)]) (st' := [.int (Int32.ofInt 2), .int p0]) E b_c10_isLaw_5_2 rfl ?_
    refine j_icmp_ne (tgt := 14) E d_c10_isLaw_7 (by decide) (fun h2 => ?_) (fun h2 => ?_)
    · replace hF := g_f hF h2
      refine j_blk (pc' := 15) (lv' := [(0, .int p0)]) (st' := [.int (Int32.ofInt 0)]) E b_c10_isLaw_14_1 rfl ?_
      have e : res = Int32.ofInt 0 := g_inj hF
      subst e
      exact j_zret E hQ nb_0 d_c10_isLaw_15 (fun _ h => h)
    · replace hF := g_t hF h2
      refine j_blk (pc' := 11) (lv' := [(0, .int p0)]) (st' := [.int (Int32.ofInt 1)]) E b_c10_isLaw_10_1 rfl ?_
      refine j_goto (tgt := 15) E d_c10_isLaw_11 (by decide) ?_
      have e : res = Int32.ofInt 1 := g_inj hF
      subst e
      exact j_zret E hQ nb_1 d_c10_isLaw_15 (fun _ h => h)
theorem b_c10_isPerson_0_1 : bdec cX10_isPerson 0 [.iload_n 0] = true := by decide +kernel
theorem d_c10_isPerson_1 : decode cX10_isPerson 1 = .ok (.ifCond .lt 23, 3) := by decide +kernel
theorem b_c10_isPerson_24_1 : bdec cX10_isPerson 24 [.iconst 0] = true := by decide +kernel
theorem d_c10_isPerson_25 : decode cX10_isPerson 25 = .ok (.ireturn, 1) := by decide +kernel
theorem b_c10_isPerson_4_2 : bdec cX10_isPerson 4 [.iload_n 0, .bipush 8] = true := by decide +kernel
theorem d_c10_isPerson_7 : decode cX10_isPerson 7 = .ok (.if_icmp .ge 17, 3) := by decide +kernel
theorem b_c10_isPerson_10_1 : bdec cX10_isPerson 10 [.iload_n 1] = true := by decide +kernel
theorem d_c10_isPerson_11 : decode cX10_isPerson 11 = .ok (.ifCond .lt 13, 3) := by decide +kernel
theorem b_c10_isPerson_14_2 : bdec cX10_isPerson 14 [.iload_n 1, .bipush 9] = true := by decide +kernel
theorem d_c10_isPerson_17 : decode cX10_isPerson 17 = .ok (.if_icmp .gt 7, 3) := by decide +kernel
theorem b_c10_isPerson_20_1 : bdec cX10_isPerson 20 [.iconst 1] = true := by decide +kernel
theorem d_c10_isPerson_21 : decode cX10_isPerson 21 = .ok (.goto 4, 3) := by decide +kernel
def f10_isPerson (p0 : Int32) (p1 : Int32) : Option (Int32) := if p0 < 0 then (some (Int32.ofInt 0)) else (if ((Int8.ofInt 8).toInt32) ≤ p0 then (some (Int32.ofInt 0)) else (if p1 < 0 then (some (Int32.ofInt 0)) else (if ((Int8.ofInt 9).toInt32) < p1 then (some (Int32.ofInt 0)) else (some (Int32.ofInt 1)))))
set_option maxRecDepth 100000 in
set_option maxHeartbeats 4000000 in
theorem c10_isPerson (l : Launch) (κ : KP) (A : Nat → Prop) (HP : Heap → Prop) (p0 : Int32) (p1 : Int32) {res : Int32} (hF : f10_isPerson p0 p1 = some res) : Met l yX10_isPerson (Cond.code yX10_isPerson cX10_isPerson 2 (some .boolean) :: WT) (rmL 0 0 0) (PP κ A [.int p0, .int p1] HP) (QQ (some (.int res)) HP A) 0 0 A := by
  refine met_of (own := RX10) (by decide) rfl (Nat.le_of_ble_eq_true rfl) ?_
  intro Γ E hQ hL hR hA hent hini
  have hAA : ∀ q, A q → jA Γ q := fun q h => by rw [hA]; exact h
  have hroom : ∀ (d mL : Nat) {mc ms : Nat}, d < 0 → mL ≤ 21 → (rmL d mc ms).frames + 1 ≤ (jR Γ).frames ∧ 8 + (mL + 11) + (rmL d mc ms).locals ≤ (jR Γ).locals := fun d mL mc ms h1 h2 => by rw [hR]; exact rmL_le h1 h2
  show J Γ 2 HP 0 0 0 [(0, .int p0), (1, .int p1)] []
  unfold f10_isPerson at hF
  refine j_blk (pc' := 1) (lv' := [(0, .int p0), (1, .int p1)]) (st' := [.int p0]) E b_c10_isPerson_0_1 rfl ?_
  refine j_if_lt (tgt := 24) E d_c10_isPerson_1 (by decide) (fun h1 => ?_) (fun h1 => ?_)
  · replace hF := g_t hF h1
    refine j_blk (pc' := 25) (lv' := [(0, .int p0), (1, .int p1)]) (st' := [.int (Int32.ofInt 0)]) E b_c10_isPerson_24_1 rfl ?_
    have e : res = Int32.ofInt 0 := g_inj hF
    subst e
    exact j_zret E hQ nb_0 d_c10_isPerson_25 (fun _ h => h)
  · replace hF := g_f hF h1
    refine j_blk (pc' := 7) (lv' := [(0, .int p0), (1, .int p1)]) (st' := [.int ((Int8.ofInt 8).toInt32), .int p0]) E b_c10_isPerson_4_2 rfl ?_
    refine j_icmp_ge (tgt := 24) E d_c10_isPerson_7 (by decide) (fun h2 => ?_) (fun h2 => ?_)
    · replace hF := g_t hF h2
      refine j_blk (pc' := 25) (lv' := [(0, .int p0), (1, .int p1)]) (st' := [.int (Int32.ofInt 0)]) E b_c10_isPerson_24_1 rfl ?_
      have e : res = Int32.ofInt 0 := g_inj hF
      subst e
      exact j_zret E hQ nb_0 d_c10_isPerson_25 (fun _ h => h)
    · replace hF := g_f hF h2
      refine j_blk (pc' := 11) (lv' := [(0, .int p0), (1, .int p1)]) (st' := [.int p1]) E b_c10_isPerson_10_1 rfl ?_
      refine j_if_lt (tgt := 24) E d_c10_isPerson_11 (by decide) (fun h3 => ?_) (fun h3 => ?_)
      · replace hF := g_t hF h3
        refine j_blk (pc' := 25) (lv' := [(0, .int p0), (1, .int p1)]) (st' := [.int (Int32.ofInt 0)]) E b_c10_isPerson_24_1 rfl ?_
        have e : res = Int32.ofInt 0 := g_inj hF
        subst e
        exact j_zret E hQ nb_0 d_c10_isPerson_25 (fun _ h => h)
      · replace hF := g_f hF h3
        refine j_blk (pc' := 17) (lv' := [(0, .int p0), (1, .int p1)]) (st' := [.int ((Int8.ofInt 9).toInt32), .int p1]) E b_c10_isPerson_14_2 rfl ?_
        refine j_icmp_gt (tgt := 24) E d_c10_isPerson_17 (by decide) (fun h4 => ?_) (fun h4 => ?_)
        · replace hF := g_t hF h4
          refine j_blk (pc' := 25) (lv' := [(0, .int p0), (1, .int p1)]) (st' := [.int (Int32.ofInt 0)]) E b_c10_isPerson_24_1 rfl ?_
          have e : res = Int32.ofInt 0 := g_inj hF
          subst e
          exact j_zret E hQ nb_0 d_c10_isPerson_25 (fun _ h => h)
        · replace hF := g_f hF h4
          refine j_blk (pc' := 21) (lv' := [(0, .int p0), (1, .int p1)]) (st' := [.int (Int32.ofInt 1)]) E b_c10_isPerson_20_1 rfl ?_
          refine j_goto (tgt := 25) E d_c10_isPerson_21 (by decide) ?_
          have e : res = Int32.ofInt 1 := g_inj hF
          subst e
          exact j_zret E hQ nb_1 d_c10_isPerson_25 (fun _ h => h)
theorem b_c10_isShelf_0_1 : bdec cX10_isShelf 0 [.iload_n 0] = true := by decide +kernel
theorem d_c10_isShelf_1 : decode cX10_isShelf 1 = .ok (.ifCond .lt 13, 3) := by decide +kernel
theorem b_c10_isShelf_14_1 : bdec cX10_isShelf 14 [.iconst 0] = true := by decide +kernel
theorem d_c10_isShelf_15 : decode cX10_isShelf 15 = .ok (.ireturn, 1) := by decide +kernel
theorem b_c10_isShelf_4_2 : bdec cX10_isShelf 4 [.iload_n 0, .bipush 8] = true := by decide +kernel
theorem d_c10_isShelf_7 : decode cX10_isShelf 7 = .ok (.if_icmp .ge 7, 3) := by decide +kernel
theorem b_c10_isShelf_10_1 : bdec cX10_isShelf 10 [.iconst 1] = true := by decide +kernel
theorem d_c10_isShelf_11 : decode cX10_isShelf 11 = .ok (.goto 4, 3) := by decide +kernel
def f10_isShelf (p0 : Int32) : Option (Int32) := if p0 < 0 then (some (Int32.ofInt 0)) else (if ((Int8.ofInt 8).toInt32) ≤ p0 then (some (Int32.ofInt 0)) else (some (Int32.ofInt 1)))
set_option maxRecDepth 100000 in
set_option maxHeartbeats 4000000 in
theorem c10_isShelf (l : Launch) (κ : KP) (A : Nat → Prop) (HP : Heap → Prop) (p0 : Int32) {res : Int32} (hF : f10_isShelf p0 = some res) : Met l yX10_isShelf (Cond.code yX10_isShelf cX10_isShelf 1 (some .boolean) :: WT) (rmL 0 0 0) (PP κ A [.int p0] HP) (QQ (some (.int res)) HP A) 0 0 A := by
  refine met_of (own := RX10) (by decide) rfl (Nat.le_of_ble_eq_true rfl) ?_
  intro Γ E hQ hL hR hA hent hini
  have hAA : ∀ q, A q → jA Γ q := fun q h => by rw [hA]; exact h
  have hroom : ∀ (d mL : Nat) {mc ms : Nat}, d < 0 → mL ≤ 21 → (rmL d mc ms).frames + 1 ≤ (jR Γ).frames ∧ 8 + (mL + 11) + (rmL d mc ms).locals ≤ (jR Γ).locals := fun d mL mc ms h1 h2 => by rw [hR]; exact rmL_le h1 h2
  show J Γ 1 HP 0 0 0 [(0, .int p0)] []
  unfold f10_isShelf at hF
  refine j_blk (pc' := 1) (lv' := [(0, .int p0)]) (st' := [.int p0]) E b_c10_isShelf_0_1 rfl ?_
  refine j_if_lt (tgt := 14) E d_c10_isShelf_1 (by decide) (fun h1 => ?_) (fun h1 => ?_)
  · replace hF := g_t hF h1
    refine j_blk (pc' := 15) (lv' := [(0, .int p0)]) (st' := [.int (Int32.ofInt 0)]) E b_c10_isShelf_14_1 rfl ?_
    have e : res = Int32.ofInt 0 := g_inj hF
    subst e
    exact j_zret E hQ nb_0 d_c10_isShelf_15 (fun _ h => h)
  · replace hF := g_f hF h1
    refine j_blk (pc' := 7) (lv' := [(0, .int p0)]) (st' := [.int ((Int8.ofInt 8).toInt32), .int p0]) E b_c10_isShelf_4_2 rfl ?_
    refine j_icmp_ge (tgt := 14) E d_c10_isShelf_7 (by decide) (fun h2 => ?_) (fun h2 => ?_)
    · replace hF := g_t hF h2
      refine j_blk (pc' := 15) (lv' := [(0, .int p0)]) (st' := [.int (Int32.ofInt 0)]) E b_c10_isShelf_14_1 rfl ?_
      have e : res = Int32.ofInt 0 := g_inj hF
      subst e
      exact j_zret E hQ nb_0 d_c10_isShelf_15 (fun _ h => h)
    · replace hF := g_f hF h2
      refine j_blk (pc' := 11) (lv' := [(0, .int p0)]) (st' := [.int (Int32.ofInt 1)]) E b_c10_isShelf_10_1 rfl ?_
      refine j_goto (tgt := 15) E d_c10_isShelf_11 (by decide) ?_
      have e : res = Int32.ofInt 1 := g_inj hF
      subst e
      exact j_zret E hQ nb_1 d_c10_isShelf_15 (fun _ h => h)
theorem b_c10_isRing_0_2 : bdec cX10_isRing 0 [.iload_n 0, .iconst 3] = true := by decide +kernel
theorem d_c10_isRing_2 : decode cX10_isRing 2 = .ok (.if_icmp .lt 20, 3) := by decide +kernel
theorem b_c10_isRing_22_1 : bdec cX10_isRing 22 [.iconst 0] = true := by decide +kernel
theorem d_c10_isRing_23 : decode cX10_isRing 23 = .ok (.ireturn, 1) := by decide +kernel
theorem b_c10_isRing_5_2 : bdec cX10_isRing 5 [.iload_n 0, .bipush 19] = true := by decide +kernel
theorem d_c10_isRing_8 : decode cX10_isRing 8 = .ok (.if_icmp .gt 14, 3) := by decide +kernel
theorem b_c10_isRing_11_2 : bdec cX10_isRing 11 [.iload_n 0, .iconst 2] = true := by decide +kernel
theorem d_c10_isRing_13 : decode cX10_isRing 13 = .ok (.irem, 1) := by decide +kernel
theorem b_c10_isRing_14_1 : bdec cX10_isRing 14 [.iconst 1] = true := by decide +kernel
theorem d_c10_isRing_15 : decode cX10_isRing 15 = .ok (.if_icmp .ne 7, 3) := by decide +kernel
theorem b_c10_isRing_18_1 : bdec cX10_isRing 18 [.iconst 1] = true := by decide +kernel
theorem d_c10_isRing_19 : decode cX10_isRing 19 = .ok (.goto 4, 3) := by decide +kernel
def f10_isRing (p0 : Int32) : Option (Int32) := if p0 < (Int32.ofInt 3) then (some (Int32.ofInt 0)) else (if ((Int8.ofInt 19).toInt32) < p0 then (some (Int32.ofInt 0)) else (onz (Int32.ofInt 2) (if (p0 - p0 / (Int32.ofInt 2) * (Int32.ofInt 2)) = (Int32.ofInt 1) then (some (Int32.ofInt 1)) else (some (Int32.ofInt 0)))))
set_option maxRecDepth 100000 in
set_option maxHeartbeats 4000000 in
theorem c10_isRing (l : Launch) (κ : KP) (A : Nat → Prop) (HP : Heap → Prop) (p0 : Int32) {res : Int32} (hF : f10_isRing p0 = some res) : Met l yX10_isRing (Cond.code yX10_isRing cX10_isRing 1 (some .boolean) :: WT) (rmL 0 0 0) (PP κ A [.int p0] HP) (QQ (some (.int res)) HP A) 0 0 A := by
  refine met_of (own := RX10) (by decide) rfl (Nat.le_of_ble_eq_true rfl) ?_
  intro Γ E hQ hL hR hA hent hini
  have hAA : ∀ q, A q → jA Γ q := fun q h => by rw [hA]; exact h
  have hroom : ∀ (d mL : Nat) {mc ms : Nat}, d < 0 → mL ≤ 21 → (rmL d mc ms).frames + 1 ≤ (jR Γ).frames ∧ 8 + (mL + 11) + (rmL d mc ms).locals ≤ (jR Γ).locals := fun d mL mc ms h1 h2 => by rw [hR]; exact rmL_le h1 h2
  show J Γ 1 HP 0 0 0 [(0, .int p0)] []
  unfold f10_isRing at hF
  refine j_blk (pc' := 2) (lv' := [(0, .int p0)]) (st' := [.int (Int32.ofInt 3), .int p0]) E b_c10_isRing_0_2 rfl ?_
  refine j_icmp_lt (tgt := 22) E d_c10_isRing_2 (by decide) (fun h1 => ?_) (fun h1 => ?_)
  · replace hF := g_t hF h1
    refine j_blk (pc' := 23) (lv' := [(0, .int p0)]) (st' := [.int (Int32.ofInt 0)]) E b_c10_isRing_22_1 rfl ?_
    have e : res = Int32.ofInt 0 := g_inj hF
    subst e
    exact j_zret E hQ nb_0 d_c10_isRing_23 (fun _ h => h)
  · replace hF := g_f hF h1
    refine j_blk (pc' := 8) (lv' := [(0, .int p0)]) (st' := [.int ((Int8.ofInt 19).toInt32), .int p0]) E b_c10_isRing_5_2 rfl ?_
    refine j_icmp_gt (tgt := 22) E d_c10_isRing_8 (by decide) (fun h2 => ?_) (fun h2 => ?_)
    · replace hF := g_t hF h2
      refine j_blk (pc' := 23) (lv' := [(0, .int p0)]) (st' := [.int (Int32.ofInt 0)]) E b_c10_isRing_22_1 rfl ?_
      have e : res = Int32.ofInt 0 := g_inj hF
      subst e
      exact j_zret E hQ nb_0 d_c10_isRing_23 (fun _ h => h)
    · replace hF := g_f hF h2
      refine j_blk (pc' := 13) (lv' := [(0, .int p0)]) (st' := [.int (Int32.ofInt 2), .int p0]) E b_c10_isRing_11_2 rfl ?_
      replace hF := onz_at hF
      obtain ⟨h0, hF⟩ := hF
      refine j_irem E d_c10_isRing_13 h0 ?_
      refine j_blk (pc' := 15) (lv' := [(0, .int p0)]) (st' := [.int (Int32.ofInt 1), .int (p0 - p0 / (Int32.ofInt 2) * (Int32.ofInt 2))]) E b_c10_isRing_14_1 rfl ?_
      refine j_icmp_ne (tgt := 22) E d_c10_isRing_15 (by decide) (fun h3 => ?_) (fun h3 => ?_)
      · replace hF := g_f hF h3
        refine j_blk (pc' := 23) (lv' := [(0, .int p0)]) (st' := [.int (Int32.ofInt 0)]) E b_c10_isRing_22_1 rfl ?_
        have e : res = Int32.ofInt 0 := g_inj hF
        subst e
        exact j_zret E hQ nb_0 d_c10_isRing_23 (fun _ h => h)
      · replace hF := g_t hF h3
        refine j_blk (pc' := 19) (lv' := [(0, .int p0)]) (st' := [.int (Int32.ofInt 1)]) E b_c10_isRing_18_1 rfl ?_
        refine j_goto (tgt := 23) E d_c10_isRing_19 (by decide) ?_
        have e : res = Int32.ofInt 1 := g_inj hF
        subst e
        exact j_zret E hQ nb_1 d_c10_isRing_23 (fun _ h => h)
theorem b_c10_digitsBehind_0_1 : bdec cX10_digitsBehind 0 [.iload_n 0] = true := by decide +kernel
theorem d_c10_digitsBehind_1 : decode cX10_digitsBehind 1 = .ok (.lookupswitch 49 #[(108, 45), (112, 43), (117, 47), (119, 43)], 43) := by decide +kernel
theorem b_c10_digitsBehind_46_1 : bdec cX10_digitsBehind 46 [.iconst 1] = true := by decide +kernel
theorem d_c10_digitsBehind_47 : decode cX10_digitsBehind 47 = .ok (.ireturn, 1) := by decide +kernel
theorem b_c10_digitsBehind_44_1 : bdec cX10_digitsBehind 44 [.iconst 2] = true := by decide +kernel
theorem d_c10_digitsBehind_45 : decode cX10_digitsBehind 45 = .ok (.ireturn, 1) := by decide +kernel
theorem b_c10_digitsBehind_48_1 : bdec cX10_digitsBehind 48 [.iconst 0] = true := by decide +kernel
theorem d_c10_digitsBehind_49 : decode cX10_digitsBehind 49 = .ok (.ireturn, 1) := by decide +kernel
theorem b_c10_digitsBehind_50_1 : bdec cX10_digitsBehind 50 [.iconst (-1)] = true := by decide +kernel
theorem d_c10_digitsBehind_51 : decode cX10_digitsBehind 51 = .ok (.ireturn, 1) := by decide +kernel
def f10_digitsBehind (p0 : Int32) : Option (Int32) := if p0 = 108 then (some (Int32.ofInt 1)) else (if p0 = 112 then (some (Int32.ofInt 2)) else (if p0 = 117 then (some (Int32.ofInt 0)) else (if p0 = 119 then (some (Int32.ofInt 2)) else (some (Int32.ofInt (-1))))))
set_option maxRecDepth 100000 in
set_option maxHeartbeats 4000000 in
theorem c10_digitsBehind (l : Launch) (κ : KP) (A : Nat → Prop) (HP : Heap → Prop) (p0 : Int32) {res : Int32} (hF : f10_digitsBehind p0 = some res) : Met l yX10_digitsBehind (Cond.code yX10_digitsBehind cX10_digitsBehind 1 (some .int) :: WT) (rmL 0 0 0) (PP κ A [.int p0] HP) (QQ (some (.int res)) HP A) 0 0 A := by
  refine met_of (own := RX10) (by decide) rfl (Nat.le_of_ble_eq_true rfl) ?_
  intro Γ E hQ hL hR hA hent hini
  have hAA : ∀ q, A q → jA Γ q := fun q h => by rw [hA]; exact h
  have hroom : ∀ (d mL : Nat) {mc ms : Nat}, d < 0 → mL ≤ 21 → (rmL d mc ms).frames + 1 ≤ (jR Γ).frames ∧ 8 + (mL + 11) + (rmL d mc ms).locals ≤ (jR Γ).locals := fun d mL mc ms h1 h2 => by rw [hR]; exact rmL_le h1 h2
  show J Γ 1 HP 0 0 0 [(0, .int p0)] []
  unfold f10_digitsBehind at hF
  refine j_blk (pc' := 1) (lv' := [(0, .int p0)]) (st' := [.int p0]) E b_c10_digitsBehind_0_1 rfl ?_
  rcases Decidable.em (p0 = 108) with h1 | h1
  · replace hF := g_t hF h1
    refine j_lkp (tgt := 46) (off := 45) E d_c10_digitsBehind_1 (by decide) (by rw [h1]; decide) (by decide) ?_
    refine j_blk (pc' := 47) (lv' := [(0, .int p0)]) (st' := [.int (Int32.ofInt 1)]) E b_c10_digitsBehind_46_1 rfl ?_
    have e : res = Int32.ofInt 1 := g_inj hF
    subst e
    exact j_iret E hQ d_c10_digitsBehind_47 (fun _ h => h)
  · replace hF := g_f hF h1
    rcases Decidable.em (p0 = 112) with h2 | h2
    · replace hF := g_t hF h2
      refine j_lkp (tgt := 44) (off := 43) E d_c10_digitsBehind_1 (by decide) (by rw [h2]; decide) (by decide) ?_
      refine j_blk (pc' := 45) (lv' := [(0, .int p0)]) (st' := [.int (Int32.ofInt 2)]) E b_c10_digitsBehind_44_1 rfl ?_
      have e : res = Int32.ofInt 2 := g_inj hF
      subst e
      exact j_iret E hQ d_c10_digitsBehind_45 (fun _ h => h)
    · replace hF := g_f hF h2
      rcases Decidable.em (p0 = 117) with h3 | h3
      · replace hF := g_t hF h3
        refine j_lkp (tgt := 48) (off := 47) E d_c10_digitsBehind_1 (by decide) (by rw [h3]; decide) (by decide) ?_
        refine j_blk (pc' := 49) (lv' := [(0, .int p0)]) (st' := [.int (Int32.ofInt 0)]) E b_c10_digitsBehind_48_1 rfl ?_
        have e : res = Int32.ofInt 0 := g_inj hF
        subst e
        exact j_iret E hQ d_c10_digitsBehind_49 (fun _ h => h)
      · replace hF := g_f hF h3
        rcases Decidable.em (p0 = 119) with h4 | h4
        · replace hF := g_t hF h4
          refine j_lkp (tgt := 44) (off := 43) E d_c10_digitsBehind_1 (by decide) (by rw [h4]; decide) (by decide) ?_
          refine j_blk (pc' := 45) (lv' := [(0, .int p0)]) (st' := [.int (Int32.ofInt 2)]) E b_c10_digitsBehind_44_1 rfl ?_
          have e : res = Int32.ofInt 2 := g_inj hF
          subst e
          exact j_iret E hQ d_c10_digitsBehind_45 (fun _ h => h)
        · replace hF := g_f hF h4
          refine j_lkp (tgt := 50) (off := 49) E d_c10_digitsBehind_1 (by decide) ((lv_osw h1 (by decide)).trans ((lv_osw h2 (by decide)).trans ((lv_osw h3 (by decide)).trans ((lv_osw h4 (by decide)).trans rfl)))) (by decide) ?_
          refine j_blk (pc' := 51) (lv' := [(0, .int p0)]) (st' := [.int (Int32.ofInt (-1))]) E b_c10_digitsBehind_50_1 rfl ?_
          have e : res = Int32.ofInt (-1) := g_inj hF
          subst e
          exact j_iret E hQ d_c10_digitsBehind_51 (fun _ h => h)
theorem b_c10_clearTold_0_2 : bdec cX10_clearTold 0 [.iconst 0, .istore_n 1] = true := by decide +kernel
theorem b_c10_clearTold_2_2 : bdec cX10_clearTold 2 [.iload_n 1, .aload_n 0] = true := by decide +kernel
theorem d_c10_clearTold_4 : decode cX10_clearTold 4 = .ok (.getfield 47, 3) := by decide +kernel
theorem d_c10_clearTold_7 : decode cX10_clearTold 7 = .ok (.arraylength, 1) := by decide +kernel
theorem d_c10_clearTold_8 : decode cX10_clearTold 8 = .ok (.if_icmp .ge 16, 3) := by decide +kernel
theorem b_c10_clearTold_11_1 : bdec cX10_clearTold 11 [.aload_n 0] = true := by decide +kernel
theorem d_c10_clearTold_12 : decode cX10_clearTold 12 = .ok (.getfield 47, 3) := by decide +kernel
theorem b_c10_clearTold_15_2 : bdec cX10_clearTold 15 [.iload_n 1, .iconst 0] = true := by decide +kernel
theorem d_c10_clearTold_17 : decode cX10_clearTold 17 = .ok (.iastore, 1) := by decide +kernel
theorem b_c10_clearTold_18_1 : bdec cX10_clearTold 18 [.iinc 1 1] = true := by decide +kernel
theorem d_c10_clearTold_21 : decode cX10_clearTold 21 = .ok (.goto (-19), 3) := by decide +kernel
theorem d_c10_clearTold_24 : decode cX10_clearTold 24 = .ok (.return_, 1) := by decide +kernel
def f10_clearTold_L2 (a0 : Nat) (w : Int32 × HM) : Option ((Int32 × HM) ⊕ (HM)) := match w with
  | (x2_1, s2) => obd (hfld s2 [10] 7 a0) (fun v2 => orf v2 (fun b3 => obd (hlen s2 b3) (fun v4 => if v4 ≤ x2_1 then (some (.inr s2)) else (obd (hfld s2 [10] 7 a0) (fun v6 => orf v6 (fun b7 => obd (hast s2 b7 x2_1 (Int32.ofInt 0)) (fun s8 => some (.inl (x2_1 + Int32.ofInt 1, s8)))))))))
def f10_clearTold (s0 : HM) (a0 : Nat) : Option (HM) := obd (iter (f10_clearTold_L2 a0) FU (Int32.ofInt 0, s0)) (fun o1 => match o1 with | t2 => some t2)
set_option maxRecDepth 100000 in
set_option maxHeartbeats 4000000 in
theorem c10_clearTold (l : Launch) (κ : KP) (A : Nat → Prop) (s0 : HM) (a0 : Nat) {res : HM} (hF : f10_clearTold s0 a0 = some res) : Met l yX10_clearTold (Cond.code yX10_clearTold cX10_clearTold 2 none :: WT) (rmL 0 0 0) (PP κ A [.ref a0] (HS κ A s0)) (QQ none (HS κ A res) A) 0 0 A := by
  refine met_of (own := RX10) (by decide) rfl (Nat.le_of_ble_eq_true rfl) ?_
  intro Γ E hQ hL hR hA hent hini
  have hAA : ∀ q, A q → jA Γ q := fun q h => by rw [hA]; exact h
  have hroom : ∀ (d mL : Nat) {mc ms : Nat}, d < 0 → mL ≤ 21 → (rmL d mc ms).frames + 1 ≤ (jR Γ).frames ∧ 8 + (mL + 11) + (rmL d mc ms).locals ≤ (jR Γ).locals := fun d mL mc ms h1 h2 => by rw [hR]; exact rmL_le h1 h2
  show J Γ 2 (HS κ A s0) 0 0 0 [(0, .ref a0)] []
  unfold f10_clearTold at hF
  refine j_blk (pc' := 2) (lv' := [(1, .int (Int32.ofInt 0)), (0, .ref a0)]) (st' := []) E b_c10_clearTold_0_2 rfl ?_
  refine j_lv [1, 0] rfl ?_
  replace hF := obd_at hF
  obtain ⟨o1, ho1, hF⟩ := hF
  have lpo1 : ∀ (fu : Nat) (w : Int32 × HM) (o : HM), iter (f10_clearTold_L2 a0) fu w = some o → (fun (o : HM) => J Γ 2 (HS κ A o) 0 0 24 [] []) o → (fun (w : Int32 × HM) => J Γ 2 (HS κ A w.2) 0 0 2 [(0, .ref a0), (1, .int w.1)] []) w := by
    refine j_iter (P := fun (w : Int32 × HM) => J Γ 2 (HS κ A w.2) 0 0 2 [(0, .ref a0), (1, .int w.1)] []) (G := fun (o : HM) => J Γ 2 (HS κ A o) 0 0 24 [] []) ?_
    rintro ⟨x2_1, s2⟩ q hF hI hO
    show J Γ 2 (HS κ A s2) 0 0 2 [(0, .ref a0), (1, .int x2_1)] []
    unfold f10_clearTold_L2 at hF
    refine j_blk (pc' := 4) (lv' := [(0, .ref a0), (1, .int x2_1)]) (st' := [.ref a0, .int x2_1]) E b_c10_clearTold_2_2 rfl ?_
    replace hF := obd_at hF
    obtain ⟨v2, ev2, hF⟩ := hF
    refine j_getf E fg_RX10_47 d_c10_clearTold_4 ev2 ?_
    replace hF := orf_at hF
    obtain ⟨b3, rfl, hF⟩ := hF
    replace hF := obd_at hF
    obtain ⟨v4, ev4, hF⟩ := hF
    refine j_alen E d_c10_clearTold_7 ev4 ?_
    refine j_icmp_ge (tgt := 24) E d_c10_clearTold_8 (by decide) (fun h5 => ?_) (fun h5 => ?_)
    · replace hF := g_t hF h5
      refine j_lv [] rfl ?_
      exact hO _ (g_inj hF)
    · replace hF := g_f hF h5
      refine j_blk (pc' := 12) (lv' := [(0, .ref a0), (1, .int x2_1)]) (st' := [.ref a0]) E b_c10_clearTold_11_1 rfl ?_
      replace hF := obd_at hF
      obtain ⟨v6, ev6, hF⟩ := hF
      refine j_getf E fg_RX10_47 d_c10_clearTold_12 ev6 ?_
      refine j_blk (pc' := 17) (lv' := [(0, .ref a0), (1, .int x2_1)]) (st' := [.int (Int32.ofInt 0), .int x2_1, v6]) E b_c10_clearTold_15_2 rfl ?_
      replace hF := orf_at hF
      obtain ⟨b7, rfl, hF⟩ := hF
      replace hF := obd_at hF
      obtain ⟨s8, es8, hF⟩ := hF
      refine j_iast E d_c10_clearTold_17 es8 hAA ?_
      refine j_blk (pc' := 21) (lv' := [(1, .int (x2_1 + Int32.ofInt 1)), (0, .ref a0)]) (st' := []) E b_c10_clearTold_18_1 rfl ?_
      refine j_goto (tgt := 2) E d_c10_clearTold_21 (by decide) ?_
      refine j_lv [1, 0] rfl ?_
      exact hI _ (g_inj hF)
  refine lpo1 FU (Int32.ofInt 0, s0) o1 ho1 ?_
  obtain ⟨t2, rfl⟩ : ∃ z, z = o1 := ⟨_, rfl⟩
  show J Γ 2 (HS κ A t2) 0 0 24 [] []
  have e : res = t2 := g_inj hF
  subst e
  exact j_vret E hQ d_c10_clearTold_24 (fun _ h => h)
theorem b_c10_commonDivisor_0_6 : bdec cX10_commonDivisor 0 [.lload_n 0, .lstore 4, .lload_n 2, .lstore 6, .iconst 0, .istore 8] = true := by decide +kernel
theorem b_c10_commonDivisor_9_2 : bdec cX10_commonDivisor 9 [.iload 8, .sipush 128] = true := by decide +kernel
theorem d_c10_commonDivisor_14 : decode cX10_commonDivisor 14 = .ok (.if_icmp .ge 31, 3) := by decide +kernel
theorem b_c10_commonDivisor_17_3 : bdec cX10_commonDivisor 17 [.lload 6, .lconst 0, .lcmp] = true := by decide +kernel
theorem d_c10_commonDivisor_21 : decode cX10_commonDivisor 21 = .ok (.ifCond .eq 24, 3) := by decide +kernel
theorem b_c10_commonDivisor_24_2 : bdec cX10_commonDivisor 24 [.lload 4, .lload 6] = true := by decide +kernel
theorem d_c10_commonDivisor_28 : decode cX10_commonDivisor 28 = .ok (.lrem, 1) := by decide +kernel
theorem b_c10_commonDivisor_29_6 : bdec cX10_commonDivisor 29 [.lstore 9, .lload 6, .lstore 4, .lload 9, .lstore 6, .iinc 8 1] = true := by decide +kernel
theorem d_c10_commonDivisor_42 : decode cX10_commonDivisor 42 = .ok (.goto (-33), 3) := by decide +kernel
theorem b_c10_commonDivisor_45_1 : bdec cX10_commonDivisor 45 [.lload 4] = true := by decide +kernel
theorem d_c10_commonDivisor_47 : decode cX10_commonDivisor 47 = .ok (.lreturn, 1) := by decide +kernel
def f10_commonDivisor_L9  (w : Int64 × Int64 × Int32) : Option ((Int64 × Int64 × Int32) ⊕ (Int64)) := match w with
  | (x9_4, x9_6, x9_8) => if ((Int16.ofInt 128).toInt32) ≤ x9_8 then (some (.inr x9_4)) else (if (lg_cmp x9_6 (Int64.ofNat 0)) = 0 then (some (.inr x9_4)) else (onzl x9_6 (some (.inl (x9_6, x9_4 - x9_4 / x9_6 * x9_6, x9_8 + Int32.ofInt 1)))))
def f10_commonDivisor (p0 : Int64) (p2 : Int64) : Option (Int64) := obd (iter (f10_commonDivisor_L9) FU (p0, p2, Int32.ofInt 0)) (fun o1 => match o1 with | e9_4 => some e9_4)
set_option maxRecDepth 100000 in
set_option maxHeartbeats 4000000 in
theorem c10_commonDivisor (l : Launch) (κ : KP) (A : Nat → Prop) (HP : Heap → Prop) (p0 : Int64) (p2 : Int64) {res : Int64} (hF : f10_commonDivisor p0 p2 = some res) : Met l yX10_commonDivisor (Cond.code yX10_commonDivisor cX10_commonDivisor 11 (some .long) :: WT) (rmL 0 0 0) (PP κ A [.long p0, .long p2] HP) (QQ (some (.long res)) HP A) 0 0 A := by
  refine met_of (own := RX10) (by decide) rfl (Nat.le_of_ble_eq_true rfl) ?_
  intro Γ E hQ hL hR hA hent hini
  have hAA : ∀ q, A q → jA Γ q := fun q h => by rw [hA]; exact h
  have hroom : ∀ (d mL : Nat) {mc ms : Nat}, d < 0 → mL ≤ 21 → (rmL d mc ms).frames + 1 ≤ (jR Γ).frames ∧ 8 + (mL + 11) + (rmL d mc ms).locals ≤ (jR Γ).locals := fun d mL mc ms h1 h2 => by rw [hR]; exact rmL_le h1 h2
  show J Γ 11 HP 0 0 0 [(0, .long p0), (2, .long p2)] []
  unfold f10_commonDivisor at hF
  refine j_blk (pc' := 9) (lv' := [(8, .int (Int32.ofInt 0)), (6, .long p2), (4, .long p0), (0, .long p0), (2, .long p2)]) (st' := []) E b_c10_commonDivisor_0_6 rfl ?_
  refine j_lv [2, 1, 0] rfl ?_
  replace hF := obd_at hF
  obtain ⟨o1, ho1, hF⟩ := hF
  have lpo1 : ∀ (fu : Nat) (w : Int64 × Int64 × Int32) (o : Int64), iter (f10_commonDivisor_L9) fu w = some o → (fun (o : Int64) => J Γ 11 HP 0 0 45 [(4, .long o)] []) o → (fun (w : Int64 × Int64 × Int32) => J Γ 11 HP 0 0 9 [(4, .long w.1), (6, .long w.2.1), (8, .int w.2.2)] []) w := by
    refine j_iter (P := fun (w : Int64 × Int64 × Int32) => J Γ 11 HP 0 0 9 [(4, .long w.1), (6, .long w.2.1), (8, .int w.2.2)] []) (G := fun (o : Int64) => J Γ 11 HP 0 0 45 [(4, .long o)] []) ?_
    rintro ⟨x9_4, x9_6, x9_8⟩ q hF hI hO
    show J Γ 11 HP 0 0 9 [(4, .long x9_4), (6, .long x9_6), (8, .int x9_8)] []
    unfold f10_commonDivisor_L9 at hF
    refine j_blk (pc' := 14) (lv' := [(4, .long x9_4), (6, .long x9_6), (8, .int x9_8)]) (st' := [.int ((Int16.ofInt 128).toInt32), .int x9_8]) E b_c10_commonDivisor_9_2 rfl ?_
    refine j_icmp_ge (tgt := 45) E d_c10_commonDivisor_14 (by decide) (fun h2 => ?_) (fun h2 => ?_)
    · replace hF := g_t hF h2
      refine j_lv [0] rfl ?_
      exact hO _ (g_inj hF)
    · replace hF := g_f hF h2
      refine j_blk (pc' := 21) (lv' := [(4, .long x9_4), (6, .long x9_6), (8, .int x9_8)]) (st' := [.int (lg_cmp x9_6 (Int64.ofNat 0))]) E b_c10_commonDivisor_17_3 rfl ?_
      refine j_if_eq (tgt := 45) E d_c10_commonDivisor_21 (by decide) (fun h3 => ?_) (fun h3 => ?_)
      · replace hF := g_t hF h3
        refine j_lv [0] rfl ?_
        exact hO _ (g_inj hF)
      · replace hF := g_f hF h3
        refine j_blk (pc' := 28) (lv' := [(4, .long x9_4), (6, .long x9_6), (8, .int x9_8)]) (st' := [.long x9_6, .long x9_4]) E b_c10_commonDivisor_24_2 rfl ?_
        replace hF := onzl_at hF
        obtain ⟨h0, hF⟩ := hF
        refine j_lrem E d_c10_commonDivisor_28 h0 ?_
        refine j_blk (pc' := 42) (lv' := [(8, .int (x9_8 + Int32.ofInt 1)), (6, .long (x9_4 - x9_4 / x9_6 * x9_6)), (4, .long x9_6), (9, .long (x9_4 - x9_4 / x9_6 * x9_6))]) (st' := []) E b_c10_commonDivisor_29_6 rfl ?_
        refine j_goto (tgt := 9) E d_c10_commonDivisor_42 (by decide) ?_
        refine j_lv [2, 1, 0] rfl ?_
        exact hI _ (g_inj hF)
  refine lpo1 FU (p0, p2, Int32.ofInt 0) o1 ho1 ?_
  obtain ⟨e9_4, rfl⟩ : ∃ z, z = o1 := ⟨_, rfl⟩
  show J Γ 11 HP 0 0 45 [(4, .long e9_4)] []
  refine j_blk (pc' := 47) (lv' := [(4, .long e9_4)]) (st' := [.long e9_4]) E b_c10_commonDivisor_45_1 rfl ?_
  have e : res = e9_4 := g_inj hF
  subst e
  exact j_lret E hQ d_c10_commonDivisor_47 (fun _ h => h)
theorem b_c10_isHalfOfDifferences_0_1 : bdec cX10_isHalfOfDifferences 0 [.iload_n 1] = true := by decide +kernel
theorem d_c10_isHalfOfDifferences_1 : decode cX10_isHalfOfDifferences 1 = .ok (.ifCond .lt 15, 3) := by decide +kernel
theorem b_c10_isHalfOfDifferences_16_1 : bdec cX10_isHalfOfDifferences 16 [.iconst 0] = true := by decide +kernel
theorem d_c10_isHalfOfDifferences_17 : decode cX10_isHalfOfDifferences 17 = .ok (.ireturn, 1) := by decide +kernel
theorem b_c10_isHalfOfDifferences_4_3 : bdec cX10_isHalfOfDifferences 4 [.iload_n 1, .iload_n 0, .ishr] = true := by decide +kernel
theorem d_c10_isHalfOfDifferences_7 : decode cX10_isHalfOfDifferences 7 = .ok (.ifCond .ne 9, 3) := by decide +kernel
theorem b_c10_isHalfOfDifferences_10_3 : bdec cX10_isHalfOfDifferences 10 [.iload_n 1, .iconst 1, .iand] = true := by decide +kernel
theorem d_c10_isHalfOfDifferences_13 : decode cX10_isHalfOfDifferences 13 = .ok (.ifCond .eq 5, 3) := by decide +kernel
theorem b_c10_isHalfOfDifferences_18_2 : bdec cX10_isHalfOfDifferences 18 [.iconst 1, .istore_n 2] = true := by decide +kernel
theorem b_c10_isHalfOfDifferences_20_2 : bdec cX10_isHalfOfDifferences 20 [.iload_n 2, .iload_n 0] = true := by decide +kernel
theorem d_c10_isHalfOfDifferences_22 : decode cX10_isHalfOfDifferences 22 = .ok (.if_icmp .ge 26, 3) := by decide +kernel
theorem b_c10_isHalfOfDifferences_25_12 : bdec cX10_isHalfOfDifferences 25 [.iload_n 1, .iload_n 2, .ishr, .iconst 1, .iand, .iload_n 1, .iload_n 0, .iload_n 2, .isub, .ishr, .iconst 1, .iand] = true := by decide +kernel
theorem d_c10_isHalfOfDifferences_37 : decode cX10_isHalfOfDifferences 37 = .ok (.if_icmp .ne 5, 3) := by decide +kernel
theorem b_c10_isHalfOfDifferences_42_1 : bdec cX10_isHalfOfDifferences 42 [.iinc 2 1] = true := by decide +kernel
theorem d_c10_isHalfOfDifferences_45 : decode cX10_isHalfOfDifferences 45 = .ok (.goto (-25), 3) := by decide +kernel
theorem b_c10_isHalfOfDifferences_40_1 : bdec cX10_isHalfOfDifferences 40 [.iconst 0] = true := by decide +kernel
theorem d_c10_isHalfOfDifferences_41 : decode cX10_isHalfOfDifferences 41 = .ok (.ireturn, 1) := by decide +kernel
theorem b_c10_isHalfOfDifferences_48_1 : bdec cX10_isHalfOfDifferences 48 [.iconst 1] = true := by decide +kernel
theorem d_c10_isHalfOfDifferences_49 : decode cX10_isHalfOfDifferences 49 = .ok (.ireturn, 1) := by decide +kernel
def f10_isHalfOfDifferences_L20 (p0 : Int32) (p1 : Int32) (w : Int32) : Option ((Int32) ⊕ ((Int32) ⊕ (Unit))) := match w with
  | x20_2 => if p0 ≤ x20_2 then (some (.inr (.inr ()))) else (if ((p1 >>> (x20_2 &&& 31)) &&& (Int32.ofInt 1)) = ((p1 >>> ((p0 - x20_2) &&& 31)) &&& (Int32.ofInt 1)) then (some (.inr (.inl (Int32.ofInt 0)))) else (some (.inl (x20_2 + Int32.ofInt 1))))
def f10_isHalfOfDifferences (p0 : Int32) (p1 : Int32) : Option (Int32) := if p1 < 0 then (some (Int32.ofInt 0)) else (if (p1 >>> (p0 &&& 31)) = 0 then (if (p1 &&& (Int32.ofInt 1)) = 0 then (obd (iter (f10_isHalfOfDifferences_L20 p0 p1) FU (Int32.ofInt 1)) (fun o4 => osm o4 (fun o4 => some o4) (fun o4 => some (Int32.ofInt 1)))) else (some (Int32.ofInt 0))) else (some (Int32.ofInt 0)))
set_option maxRecDepth 100000 in
set_option maxHeartbeats 4000000 in
theorem c10_isHalfOfDifferences (l : Launch) (κ : KP) (A : Nat → Prop) (HP : Heap → Prop) (p0 : Int32) (p1 : Int32) {res : Int32} (hF : f10_isHalfOfDifferences p0 p1 = some res) : Met l yX10_isHalfOfDifferences (Cond.code yX10_isHalfOfDifferences cX10_isHalfOfDifferences 3 (some .boolean) :: WT) (rmL 0 0 0) (PP κ A [.int p0, .int p1] HP) (QQ (some (.int res)) HP A) 0 0 A := by
  refine met_of (own := RX10) (by decide) rfl (Nat.le_of_ble_eq_true rfl) ?_
  intro Γ E hQ hL hR hA hent hini
  have hAA : ∀ q, A q → jA Γ q := fun q h => by rw [hA]; exact h
  have hroom : ∀ (d mL : Nat) {mc ms : Nat}, d < 0 → mL ≤ 21 → (rmL d mc ms).frames + 1 ≤ (jR Γ).frames ∧ 8 + (mL + 11) + (rmL d mc ms).locals ≤ (jR Γ).locals := fun d mL mc ms h1 h2 => by rw [hR]; exact rmL_le h1 h2
  show J Γ 3 HP 0 0 0 [(0, .int p0), (1, .int p1)] []
  unfold f10_isHalfOfDifferences at hF
  refine j_blk (pc' := 1) (lv' := [(0, .int p0), (1, .int p1)]) (st' := [.int p1]) E b_c10_isHalfOfDifferences_0_1 rfl ?_
  refine j_if_lt (tgt := 16) E d_c10_isHalfOfDifferences_1 (by decide) (fun h1 => ?_) (fun h1 => ?_)
  · replace hF := g_t hF h1
    refine j_blk (pc' := 17) (lv' := [(0, .int p0), (1, .int p1)]) (st' := [.int (Int32.ofInt 0)]) E b_c10_isHalfOfDifferences_16_1 rfl ?_
    have e : res = Int32.ofInt 0 := g_inj hF
    subst e
    exact j_zret E hQ nb_0 d_c10_isHalfOfDifferences_17 (fun _ h => h)
  · replace hF := g_f hF h1
    refine j_blk (pc' := 7) (lv' := [(0, .int p0), (1, .int p1)]) (st' := [.int (p1 >>> (p0 &&& 31))]) E b_c10_isHalfOfDifferences_4_3 rfl ?_
    refine j_if_ne (tgt := 16) E d_c10_isHalfOfDifferences_7 (by decide) (fun h2 => ?_) (fun h2 => ?_)
    · replace hF := g_f hF h2
      refine j_blk (pc' := 17) (lv' := [(0, .int p0), (1, .int p1)]) (st' := [.int (Int32.ofInt 0)]) E b_c10_isHalfOfDifferences_16_1 rfl ?_
      have e : res = Int32.ofInt 0 := g_inj hF
      subst e
      exact j_zret E hQ nb_0 d_c10_isHalfOfDifferences_17 (fun _ h => h)
    · replace hF := g_t hF h2
      refine j_blk (pc' := 13) (lv' := [(0, .int p0), (1, .int p1)]) (st' := [.int (p1 &&& (Int32.ofInt 1))]) E b_c10_isHalfOfDifferences_10_3 rfl ?_
      refine j_if_eq (tgt := 18) E d_c10_isHalfOfDifferences_13 (by decide) (fun h3 => ?_) (fun h3 => ?_)
      · replace hF := g_t hF h3
        refine j_blk (pc' := 20) (lv' := [(2, .int (Int32.ofInt 1)), (0, .int p0), (1, .int p1)]) (st' := []) E b_c10_isHalfOfDifferences_18_2 rfl ?_
        refine j_lv [1, 2, 0] rfl ?_
        replace hF := obd_at hF
        obtain ⟨o4, ho4, hF⟩ := hF
        have lpo4 : ∀ (fu : Nat) (w : Int32) (o : (Int32) ⊕ (Unit)), iter (f10_isHalfOfDifferences_L20 p0 p1) fu w = some o → (fun (o : (Int32) ⊕ (Unit)) => match o with | .inl r => r = res | .inr o => J Γ 3 HP 0 0 48 [] []) o → (fun (w : Int32) => J Γ 3 HP 0 0 20 [(0, .int p0), (1, .int p1), (2, .int w)] []) w := by
          refine j_iter (P := fun (w : Int32) => J Γ 3 HP 0 0 20 [(0, .int p0), (1, .int p1), (2, .int w)] []) (G := fun (o : (Int32) ⊕ (Unit)) => match o with | .inl r => r = res | .inr o => J Γ 3 HP 0 0 48 [] []) ?_
          intro x20_2 q hF hI hO
          show J Γ 3 HP 0 0 20 [(0, .int p0), (1, .int p1), (2, .int x20_2)] []
          unfold f10_isHalfOfDifferences_L20 at hF
          refine j_blk (pc' := 22) (lv' := [(0, .int p0), (1, .int p1), (2, .int x20_2)]) (st' := [.int p0, .int x20_2]) E b_c10_isHalfOfDifferences_20_2 rfl ?_
          refine j_icmp_ge (tgt := 48) E d_c10_isHalfOfDifferences_22 (by decide) (fun h5 => ?_) (fun h5 => ?_)
          · replace hF := g_t hF h5
            refine j_lv [] rfl ?_
            exact hO _ (g_inj hF)
          · replace hF := g_f hF h5
            refine j_blk (pc' := 37) (lv' := [(0, .int p0), (1, .int p1), (2, .int x20_2)]) (st' := [.int ((p1 >>> ((p0 - x20_2) &&& 31)) &&& (Int32.ofInt 1)), .int ((p1 >>> (x20_2 &&& 31)) &&& (Int32.ofInt 1))]) E b_c10_isHalfOfDifferences_25_12 rfl ?_
            refine j_icmp_ne (tgt := 42) E d_c10_isHalfOfDifferences_37 (by decide) (fun h6 => ?_) (fun h6 => ?_)
            · replace hF := g_f hF h6
              refine j_blk (pc' := 45) (lv' := [(2, .int (x20_2 + Int32.ofInt 1)), (0, .int p0), (1, .int p1)]) (st' := []) E b_c10_isHalfOfDifferences_42_1 rfl ?_
              refine j_goto (tgt := 20) E d_c10_isHalfOfDifferences_45 (by decide) ?_
              refine j_lv [1, 2, 0] rfl ?_
              exact hI _ (g_inj hF)
            · replace hF := g_t hF h6
              refine j_blk (pc' := 41) (lv' := [(0, .int p0), (1, .int p1), (2, .int x20_2)]) (st' := [.int (Int32.ofInt 0)]) E b_c10_isHalfOfDifferences_40_1 rfl ?_
              have e : Int32.ofInt 0 = res := hO _ (g_inj hF)
              subst e
              exact j_zret E hQ nb_0 d_c10_isHalfOfDifferences_41 (fun _ h => h)
        refine lpo4 FU (Int32.ofInt 1) o4 ho4 ?_
        rcases o4 with o4 | o4
        · exact (g_inj hF).symm
        · skip
          show J Γ 3 HP 0 0 48 [] []
          refine j_blk (pc' := 49) (lv' := []) (st' := [.int (Int32.ofInt 1)]) E b_c10_isHalfOfDifferences_48_1 rfl ?_
          have e : res = Int32.ofInt 1 := g_inj hF
          subst e
          exact j_zret E hQ nb_1 d_c10_isHalfOfDifferences_49 (fun _ h => h)
      · replace hF := g_f hF h3
        refine j_blk (pc' := 17) (lv' := [(0, .int p0), (1, .int p1)]) (st' := [.int (Int32.ofInt 0)]) E b_c10_isHalfOfDifferences_16_1 rfl ?_
        have e : res = Int32.ofInt 0 := g_inj hF
        subst e
        exact j_zret E hQ nb_0 d_c10_isHalfOfDifferences_17 (fun _ h => h)
theorem b_c10_setWithUpperHalf_0_4 : bdec cX10_setWithUpperHalf 0 [.iload_n 0, .iconst 1, .isub, .iconst 2] = true := by decide +kernel
theorem d_c10_setWithUpperHalf_4 : decode cX10_setWithUpperHalf 4 = .ok (.idiv, 1) := by decide +kernel
theorem b_c10_setWithUpperHalf_5_9 : bdec cX10_setWithUpperHalf 5 [.istore_n 2, .iload_n 1, .iload_n 2, .iconst 1, .iadd, .ishl, .istore_n 3, .iconst 1, .istore 4] = true := by decide +kernel
theorem b_c10_setWithUpperHalf_15_2 : bdec cX10_setWithUpperHalf 15 [.iload 4, .iload_n 2] = true := by decide +kernel
theorem d_c10_setWithUpperHalf_18 : decode cX10_setWithUpperHalf 18 = .ok (.if_icmp .gt 27, 3) := by decide +kernel
theorem b_c10_setWithUpperHalf_21_7 : bdec cX10_setWithUpperHalf 21 [.iload_n 3, .iload_n 0, .iload 4, .isub, .ishr, .iconst 1, .iand] = true := by decide +kernel
theorem d_c10_setWithUpperHalf_29 : decode cX10_setWithUpperHalf 29 = .ok (.ifCond .ne 10, 3) := by decide +kernel
theorem b_c10_setWithUpperHalf_39_1 : bdec cX10_setWithUpperHalf 39 [.iinc 4 1] = true := by decide +kernel
theorem d_c10_setWithUpperHalf_42 : decode cX10_setWithUpperHalf 42 = .ok (.goto (-27), 3) := by decide +kernel
theorem b_c10_setWithUpperHalf_32_7 : bdec cX10_setWithUpperHalf 32 [.iload_n 3, .iconst 1, .iload 4, .ishl, .ior, .istore_n 3, .iinc 4 1] = true := by decide +kernel
theorem b_c10_setWithUpperHalf_45_1 : bdec cX10_setWithUpperHalf 45 [.iload_n 3] = true := by decide +kernel
theorem d_c10_setWithUpperHalf_46 : decode cX10_setWithUpperHalf 46 = .ok (.ireturn, 1) := by decide +kernel
def f10_setWithUpperHalf_L15 (p0 : Int32) (c15_2 : Int32) (w : Int32 × Int32) : Option ((Int32 × Int32) ⊕ (Int32)) := match w with
  | (x15_3, x15_4) => if c15_2 < x15_4 then (some (.inr x15_3)) else (if ((x15_3 >>> ((p0 - x15_4) &&& 31)) &&& (Int32.ofInt 1)) = 0 then (some (.inl (x15_3 ||| ((Int32.ofInt 1) <<< (x15_4 &&& 31)), x15_4 + Int32.ofInt 1))) else (some (.inl (x15_3, x15_4 + Int32.ofInt 1))))
def f10_setWithUpperHalf (p0 : Int32) (p1 : Int32) : Option (Int32) := onz (Int32.ofInt 2) (obd (iter (f10_setWithUpperHalf_L15 p0 ((p0 - (Int32.ofInt 1)) / (Int32.ofInt 2))) FU (p1 <<< ((((p0 - (Int32.ofInt 1)) / (Int32.ofInt 2)) + (Int32.ofInt 1)) &&& 31), Int32.ofInt 1)) (fun o1 => match o1 with | e15_3 => some e15_3))
set_option maxRecDepth 100000 in
set_option maxHeartbeats 4000000 in
theorem c10_setWithUpperHalf (l : Launch) (κ : KP) (A : Nat → Prop) (HP : Heap → Prop) (p0 : Int32) (p1 : Int32) {res : Int32} (hF : f10_setWithUpperHalf p0 p1 = some res) : Met l yX10_setWithUpperHalf (Cond.code yX10_setWithUpperHalf cX10_setWithUpperHalf 5 (some .int) :: WT) (rmL 0 0 0) (PP κ A [.int p0, .int p1] HP) (QQ (some (.int res)) HP A) 0 0 A := by
  refine met_of (own := RX10) (by decide) rfl (Nat.le_of_ble_eq_true rfl) ?_
  intro Γ E hQ hL hR hA hent hini
  have hAA : ∀ q, A q → jA Γ q := fun q h => by rw [hA]; exact h
  have hroom : ∀ (d mL : Nat) {mc ms : Nat}, d < 0 → mL ≤ 21 → (rmL d mc ms).frames + 1 ≤ (jR Γ).frames ∧ 8 + (mL + 11) + (rmL d mc ms).locals ≤ (jR Γ).locals := fun d mL mc ms h1 h2 => by rw [hR]; exact rmL_le h1 h2
  show J Γ 5 HP 0 0 0 [(0, .int p0), (1, .int p1)] []
  unfold f10_setWithUpperHalf at hF
  refine j_blk (pc' := 4) (lv' := [(0, .int p0), (1, .int p1)]) (st' := [.int (Int32.ofInt 2), .int (p0 - (Int32.ofInt 1))]) E b_c10_setWithUpperHalf_0_4 rfl ?_
  replace hF := onz_at hF
  obtain ⟨h0, hF⟩ := hF
  refine j_idiv E d_c10_setWithUpperHalf_4 h0 ?_
  refine j_blk (pc' := 15) (lv' := [(4, .int (Int32.ofInt 1)), (3, .int (p1 <<< ((((p0 - (Int32.ofInt 1)) / (Int32.ofInt 2)) + (Int32.ofInt 1)) &&& 31))), (2, .int ((p0 - (Int32.ofInt 1)) / (Int32.ofInt 2))), (0, .int p0), (1, .int p1)]) (st' := []) E b_c10_setWithUpperHalf_5_9 rfl ?_
  refine j_lv [3, 2, 1, 0] rfl ?_
  replace hF := obd_at hF
  obtain ⟨o1, ho1, hF⟩ := hF
  have lpo1 : ∀ (c15_2 : Int32), ∀ (fu : Nat) (w : Int32 × Int32) (o : Int32), iter (f10_setWithUpperHalf_L15 p0 c15_2) fu w = some o → (fun (o : Int32) => J Γ 5 HP 0 0 45 [(3, .int o)] []) o → (fun (w : Int32 × Int32) => J Γ 5 HP 0 0 15 [(0, .int p0), (2, .int c15_2), (3, .int w.1), (4, .int w.2)] []) w := by
    intro c15_2
    refine j_iter (P := fun (w : Int32 × Int32) => J Γ 5 HP 0 0 15 [(0, .int p0), (2, .int c15_2), (3, .int w.1), (4, .int w.2)] []) (G := fun (o : Int32) => J Γ 5 HP 0 0 45 [(3, .int o)] []) ?_
    rintro ⟨x15_3, x15_4⟩ q hF hI hO
    show J Γ 5 HP 0 0 15 [(0, .int p0), (2, .int c15_2), (3, .int x15_3), (4, .int x15_4)] []
    unfold f10_setWithUpperHalf_L15 at hF
    refine j_blk (pc' := 18) (lv' := [(0, .int p0), (2, .int c15_2), (3, .int x15_3), (4, .int x15_4)]) (st' := [.int c15_2, .int x15_4]) E b_c10_setWithUpperHalf_15_2 rfl ?_
    refine j_icmp_gt (tgt := 45) E d_c10_setWithUpperHalf_18 (by decide) (fun h2 => ?_) (fun h2 => ?_)
    · replace hF := g_t hF h2
      refine j_lv [2] rfl ?_
      exact hO _ (g_inj hF)
    · replace hF := g_f hF h2
      refine j_blk (pc' := 29) (lv' := [(0, .int p0), (2, .int c15_2), (3, .int x15_3), (4, .int x15_4)]) (st' := [.int ((x15_3 >>> ((p0 - x15_4) &&& 31)) &&& (Int32.ofInt 1))]) E b_c10_setWithUpperHalf_21_7 rfl ?_
      refine j_if_ne (tgt := 39) E d_c10_setWithUpperHalf_29 (by decide) (fun h3 => ?_) (fun h3 => ?_)
      · replace hF := g_f hF h3
        refine j_blk (pc' := 42) (lv' := [(4, .int (x15_4 + Int32.ofInt 1)), (0, .int p0), (2, .int c15_2), (3, .int x15_3)]) (st' := []) E b_c10_setWithUpperHalf_39_1 rfl ?_
        refine j_goto (tgt := 15) E d_c10_setWithUpperHalf_42 (by decide) ?_
        refine j_lv [1, 2, 3, 0] rfl ?_
        exact hI _ (g_inj hF)
      · replace hF := g_t hF h3
        refine j_blk (pc' := 42) (lv' := [(4, .int (x15_4 + Int32.ofInt 1)), (3, .int (x15_3 ||| ((Int32.ofInt 1) <<< (x15_4 &&& 31)))), (0, .int p0), (2, .int c15_2)]) (st' := []) E b_c10_setWithUpperHalf_32_7 rfl ?_
        refine j_goto (tgt := 15) E d_c10_setWithUpperHalf_42 (by decide) ?_
        refine j_lv [2, 3, 1, 0] rfl ?_
        exact hI _ (g_inj hF)
  refine lpo1 ((p0 - (Int32.ofInt 1)) / (Int32.ofInt 2)) FU (p1 <<< ((((p0 - (Int32.ofInt 1)) / (Int32.ofInt 2)) + (Int32.ofInt 1)) &&& 31), Int32.ofInt 1) o1 ho1 ?_
  obtain ⟨e15_3, rfl⟩ : ∃ z, z = o1 := ⟨_, rfl⟩
  show J Γ 5 HP 0 0 45 [(3, .int e15_3)] []
  refine j_blk (pc' := 46) (lv' := [(3, .int e15_3)]) (st' := [.int e15_3]) E b_c10_setWithUpperHalf_45_1 rfl ?_
  have e : res = e15_3 := g_inj hF
  subst e
  exact j_iret E hQ d_c10_setWithUpperHalf_46 (fun _ h => h)
theorem b_c10_isLawfulRing_0_16 : bdec cX10_isLawfulRing 0 [.iconst 1, .iload_n 0, .ishl, .iconst 1, .isub, .istore_n 3, .iload_n 3, .iload_n 1, .iconst (-1), .ixor, .iand, .bipush (-2), .iand, .istore 4, .iload_n 2, .iconst 1] = true := by decide +kernel
theorem d_c10_isLawfulRing_18 : decode cX10_isLawfulRing 18 = .ok (.if_icmp .ne 14, 3) := by decide +kernel
theorem b_c10_isLawfulRing_32_2 : bdec cX10_isLawfulRing 32 [.iconst 1, .istore 5] = true := by decide +kernel
theorem b_c10_isLawfulRing_35_2 : bdec cX10_isLawfulRing 35 [.iload 5, .iload_n 0] = true := by decide +kernel
theorem d_c10_isLawfulRing_38 : decode cX10_isLawfulRing 38 = .ok (.if_icmp .ge 36, 3) := by decide +kernel
theorem b_c10_isLawfulRing_41_15 : bdec cX10_isLawfulRing 41 [.iload 4, .iload 5, .ishl, .iload 4, .iload_n 0, .iload 5, .isub, .ishr, .ior, .iload_n 3, .iand, .istore 6, .iload 4, .iload 6, .iand] = true := by decide +kernel
theorem d_c10_isLawfulRing_63 : decode cX10_isLawfulRing 63 = .ok (.ifCond .ne 5, 3) := by decide +kernel
theorem b_c10_isLawfulRing_68_1 : bdec cX10_isLawfulRing 68 [.iinc 5 1] = true := by decide +kernel
theorem d_c10_isLawfulRing_71 : decode cX10_isLawfulRing 71 = .ok (.goto (-36), 3) := by decide +kernel
theorem b_c10_isLawfulRing_66_1 : bdec cX10_isLawfulRing 66 [.iconst 0] = true := by decide +kernel
theorem d_c10_isLawfulRing_67 : decode cX10_isLawfulRing 67 = .ok (.ireturn, 1) := by decide +kernel
theorem b_c10_isLawfulRing_74_1 : bdec cX10_isLawfulRing 74 [.iconst 1] = true := by decide +kernel
theorem d_c10_isLawfulRing_75 : decode cX10_isLawfulRing 75 = .ok (.ireturn, 1) := by decide +kernel
theorem b_c10_isLawfulRing_21_1 : bdec cX10_isLawfulRing 21 [.iload 4] = true := by decide +kernel
theorem d_c10_isLawfulRing_23 : decode cX10_isLawfulRing 23 = .ok (.ifCond .eq 7, 3) := by decide +kernel
theorem b_c10_isLawfulRing_30_1 : bdec cX10_isLawfulRing 30 [.iconst 0] = true := by decide +kernel
theorem d_c10_isLawfulRing_31 : decode cX10_isLawfulRing 31 = .ok (.ireturn, 1) := by decide +kernel
theorem b_c10_isLawfulRing_26_1 : bdec cX10_isLawfulRing 26 [.iconst 1] = true := by decide +kernel
theorem d_c10_isLawfulRing_27 : decode cX10_isLawfulRing 27 = .ok (.goto 4, 3) := by decide +kernel
def f10_isLawfulRing_L35 (p0 : Int32) (c35_3 : Int32) (c35_4 : Int32) (w : Int32) : Option ((Int32) ⊕ ((Int32) ⊕ (Unit))) := match w with
  | x35_5 => if p0 ≤ x35_5 then (some (.inr (.inr ()))) else (if (c35_4 &&& (((c35_4 <<< (x35_5 &&& 31)) ||| (c35_4 >>> ((p0 - x35_5) &&& 31))) &&& c35_3)) = 0 then (some (.inr (.inl (Int32.ofInt 0)))) else (some (.inl (x35_5 + Int32.ofInt 1))))
def f10_isLawfulRing (p0 : Int32) (p1 : Int32) (p2 : Int32) : Option (Int32) := if p2 = (Int32.ofInt 1) then (if (((((Int32.ofInt 1) <<< (p0 &&& 31)) - (Int32.ofInt 1)) &&& (p1 ^^^ (Int32.ofInt (-1)))) &&& ((Int8.ofInt (-2)).toInt32)) = 0 then (some (Int32.ofInt 0)) else (some (Int32.ofInt 1))) else (obd (iter (f10_isLawfulRing_L35 p0 (((Int32.ofInt 1) <<< (p0 &&& 31)) - (Int32.ofInt 1)) (((((Int32.ofInt 1) <<< (p0 &&& 31)) - (Int32.ofInt 1)) &&& (p1 ^^^ (Int32.ofInt (-1)))) &&& ((Int8.ofInt (-2)).toInt32))) FU (Int32.ofInt 1)) (fun o2 => osm o2 (fun o2 => some o2) (fun o2 => some (Int32.ofInt 1))))
set_option maxRecDepth 100000 in
set_option maxHeartbeats 4000000 in
theorem c10_isLawfulRing (l : Launch) (κ : KP) (A : Nat → Prop) (HP : Heap → Prop) (p0 : Int32) (p1 : Int32) (p2 : Int32) {res : Int32} (hF : f10_isLawfulRing p0 p1 p2 = some res) : Met l yX10_isLawfulRing (Cond.code yX10_isLawfulRing cX10_isLawfulRing 7 (some .boolean) :: WT) (rmL 0 0 0) (PP κ A [.int p0, .int p1, .int p2] HP) (QQ (some (.int res)) HP A) 0 0 A := by
  refine met_of (own := RX10) (by decide) rfl (Nat.le_of_ble_eq_true rfl) ?_
  intro Γ E hQ hL hR hA hent hini
  have hAA : ∀ q, A q → jA Γ q := fun q h => by rw [hA]; exact h
  have hroom : ∀ (d mL : Nat) {mc ms : Nat}, d < 0 → mL ≤ 21 → (rmL d mc ms).frames + 1 ≤ (jR Γ).frames ∧ 8 + (mL + 11) + (rmL d mc ms).locals ≤ (jR Γ).locals := fun d mL mc ms h1 h2 => by rw [hR]; exact rmL_le h1 h2
  show J Γ 7 HP 0 0 0 [(0, .int p0), (1, .int p1), (2, .int p2)] []
  unfold f10_isLawfulRing at hF
  refine j_blk (pc' := 18) (lv' := [(4, .int (((((Int32.ofInt 1) <<< (p0 &&& 31)) - (Int32.ofInt 1)) &&& (p1 ^^^ (Int32.ofInt (-1)))) &&& ((Int8.ofInt (-2)).toInt32))), (3, .int (((Int32.ofInt 1) <<< (p0 &&& 31)) - (Int32.ofInt 1))), (0, .int p0), (1, .int p1), (2, .int p2)]) (st' := [.int (Int32.ofInt 1), .int p2]) E b_c10_isLawfulRing_0_16 rfl ?_
  refine j_icmp_ne (tgt := 32) E d_c10_isLawfulRing_18 (by decide) (fun h1 => ?_) (fun h1 => ?_)
  · replace hF := g_f hF h1
    refine j_blk (pc' := 35) (lv' := [(5, .int (Int32.ofInt 1)), (4, .int (((((Int32.ofInt 1) <<< (p0 &&& 31)) - (Int32.ofInt 1)) &&& (p1 ^^^ (Int32.ofInt (-1)))) &&& ((Int8.ofInt (-2)).toInt32))), (3, .int (((Int32.ofInt 1) <<< (p0 &&& 31)) - (Int32.ofInt 1))), (0, .int p0), (1, .int p1), (2, .int p2)]) (st' := []) E b_c10_isLawfulRing_32_2 rfl ?_
    refine j_lv [3, 2, 1, 0] rfl ?_
    replace hF := obd_at hF
    obtain ⟨o2, ho2, hF⟩ := hF
    have lpo2 : ∀ (c35_3 : Int32) (c35_4 : Int32), ∀ (fu : Nat) (w : Int32) (o : (Int32) ⊕ (Unit)), iter (f10_isLawfulRing_L35 p0 c35_3 c35_4) fu w = some o → (fun (o : (Int32) ⊕ (Unit)) => match o with | .inl r => r = res | .inr o => J Γ 7 HP 0 0 74 [] []) o → (fun (w : Int32) => J Γ 7 HP 0 0 35 [(0, .int p0), (3, .int c35_3), (4, .int c35_4), (5, .int w)] []) w := by
      intro c35_3 c35_4
      refine j_iter (P := fun (w : Int32) => J Γ 7 HP 0 0 35 [(0, .int p0), (3, .int c35_3), (4, .int c35_4), (5, .int w)] []) (G := fun (o : (Int32) ⊕ (Unit)) => match o with | .inl r => r = res | .inr o => J Γ 7 HP 0 0 74 [] []) ?_
      intro x35_5 q hF hI hO
      show J Γ 7 HP 0 0 35 [(0, .int p0), (3, .int c35_3), (4, .int c35_4), (5, .int x35_5)] []
      unfold f10_isLawfulRing_L35 at hF
      refine j_blk (pc' := 38) (lv' := [(0, .int p0), (3, .int c35_3), (4, .int c35_4), (5, .int x35_5)]) (st' := [.int p0, .int x35_5]) E b_c10_isLawfulRing_35_2 rfl ?_
      refine j_icmp_ge (tgt := 74) E d_c10_isLawfulRing_38 (by decide) (fun h3 => ?_) (fun h3 => ?_)
      · replace hF := g_t hF h3
        refine j_lv [] rfl ?_
        exact hO _ (g_inj hF)
      · replace hF := g_f hF h3
        refine j_blk (pc' := 63) (lv' := [(6, .int (((c35_4 <<< (x35_5 &&& 31)) ||| (c35_4 >>> ((p0 - x35_5) &&& 31))) &&& c35_3)), (0, .int p0), (3, .int c35_3), (4, .int c35_4), (5, .int x35_5)]) (st' := [.int (c35_4 &&& (((c35_4 <<< (x35_5 &&& 31)) ||| (c35_4 >>> ((p0 - x35_5) &&& 31))) &&& c35_3))]) E b_c10_isLawfulRing_41_15 rfl ?_
        refine j_if_ne (tgt := 68) E d_c10_isLawfulRing_63 (by decide) (fun h4 => ?_) (fun h4 => ?_)
        · replace hF := g_f hF h4
          refine j_blk (pc' := 71) (lv' := [(5, .int (x35_5 + Int32.ofInt 1)), (6, .int (((c35_4 <<< (x35_5 &&& 31)) ||| (c35_4 >>> ((p0 - x35_5) &&& 31))) &&& c35_3)), (0, .int p0), (3, .int c35_3), (4, .int c35_4)]) (st' := []) E b_c10_isLawfulRing_68_1 rfl ?_
          refine j_goto (tgt := 35) E d_c10_isLawfulRing_71 (by decide) ?_
          refine j_lv [2, 3, 4, 0] rfl ?_
          exact hI _ (g_inj hF)
        · replace hF := g_t hF h4
          refine j_blk (pc' := 67) (lv' := [(6, .int (((c35_4 <<< (x35_5 &&& 31)) ||| (c35_4 >>> ((p0 - x35_5) &&& 31))) &&& c35_3)), (0, .int p0), (3, .int c35_3), (4, .int c35_4), (5, .int x35_5)]) (st' := [.int (Int32.ofInt 0)]) E b_c10_isLawfulRing_66_1 rfl ?_
          have e : Int32.ofInt 0 = res := hO _ (g_inj hF)
          subst e
          exact j_zret E hQ nb_0 d_c10_isLawfulRing_67 (fun _ h => h)
    refine lpo2 (((Int32.ofInt 1) <<< (p0 &&& 31)) - (Int32.ofInt 1)) (((((Int32.ofInt 1) <<< (p0 &&& 31)) - (Int32.ofInt 1)) &&& (p1 ^^^ (Int32.ofInt (-1)))) &&& ((Int8.ofInt (-2)).toInt32)) FU (Int32.ofInt 1) o2 ho2 ?_
    rcases o2 with o2 | o2
    · exact (g_inj hF).symm
    · skip
      show J Γ 7 HP 0 0 74 [] []
      refine j_blk (pc' := 75) (lv' := []) (st' := [.int (Int32.ofInt 1)]) E b_c10_isLawfulRing_74_1 rfl ?_
      have e : res = Int32.ofInt 1 := g_inj hF
      subst e
      exact j_zret E hQ nb_1 d_c10_isLawfulRing_75 (fun _ h => h)
  · replace hF := g_t hF h1
    refine j_blk (pc' := 23) (lv' := [(4, .int (((((Int32.ofInt 1) <<< (p0 &&& 31)) - (Int32.ofInt 1)) &&& (p1 ^^^ (Int32.ofInt (-1)))) &&& ((Int8.ofInt (-2)).toInt32))), (3, .int (((Int32.ofInt 1) <<< (p0 &&& 31)) - (Int32.ofInt 1))), (0, .int p0), (1, .int p1), (2, .int p2)]) (st' := [.int (((((Int32.ofInt 1) <<< (p0 &&& 31)) - (Int32.ofInt 1)) &&& (p1 ^^^ (Int32.ofInt (-1)))) &&& ((Int8.ofInt (-2)).toInt32))]) E b_c10_isLawfulRing_21_1 rfl ?_
    refine j_if_eq (tgt := 30) E d_c10_isLawfulRing_23 (by decide) (fun h5 => ?_) (fun h5 => ?_)
    · replace hF := g_t hF h5
      refine j_blk (pc' := 31) (lv' := [(4, .int (((((Int32.ofInt 1) <<< (p0 &&& 31)) - (Int32.ofInt 1)) &&& (p1 ^^^ (Int32.ofInt (-1)))) &&& ((Int8.ofInt (-2)).toInt32))), (3, .int (((Int32.ofInt 1) <<< (p0 &&& 31)) - (Int32.ofInt 1))), (0, .int p0), (1, .int p1), (2, .int p2)]) (st' := [.int (Int32.ofInt 0)]) E b_c10_isLawfulRing_30_1 rfl ?_
      have e : res = Int32.ofInt 0 := g_inj hF
      subst e
      exact j_zret E hQ nb_0 d_c10_isLawfulRing_31 (fun _ h => h)
    · replace hF := g_f hF h5
      refine j_blk (pc' := 27) (lv' := [(4, .int (((((Int32.ofInt 1) <<< (p0 &&& 31)) - (Int32.ofInt 1)) &&& (p1 ^^^ (Int32.ofInt (-1)))) &&& ((Int8.ofInt (-2)).toInt32))), (3, .int (((Int32.ofInt 1) <<< (p0 &&& 31)) - (Int32.ofInt 1))), (0, .int p0), (1, .int p1), (2, .int p2)]) (st' := [.int (Int32.ofInt 1)]) E b_c10_isLawfulRing_26_1 rfl ?_
      refine j_goto (tgt := 31) E d_c10_isLawfulRing_27 (by decide) ?_
      have e : res = Int32.ofInt 1 := g_inj hF
      subst e
      exact j_zret E hQ nb_1 d_c10_isLawfulRing_31 (fun _ h => h)
theorem b_c10_law_0_1 : bdec cX10_law 0 [.iload_n 1] = true := by decide +kernel
theorem d_c10_law_1 : decode cX10_law 1 = .ok (.invokestatic 127, 3) := by decide +kernel
theorem d_c10_law_4 : decode cX10_law 4 = .ok (.ifCond .ne 5, 3) := by decide +kernel
theorem b_c10_law_9_1 : bdec cX10_law 9 [.aload_n 0] = true := by decide +kernel
theorem d_c10_law_10 : decode cX10_law 10 = .ok (.getfield 23, 3) := by decide +kernel
theorem d_c10_law_13 : decode cX10_law 13 = .ok (.getfield 130, 3) := by decide +kernel
theorem b_c10_law_16_2 : bdec cX10_law 16 [.istore_n 2, .aload_n 0] = true := by decide +kernel
theorem d_c10_law_18 : decode cX10_law 18 = .ok (.getfield 23, 3) := by decide +kernel
theorem b_c10_law_21_1 : bdec cX10_law 21 [.iload_n 1] = true := by decide +kernel
theorem d_c10_law_22 : decode cX10_law 22 = .ok (.putfield 130, 3) := by decide +kernel
theorem b_c10_law_25_1 : bdec cX10_law 25 [.iload_n 2] = true := by decide +kernel
theorem d_c10_law_26 : decode cX10_law 26 = .ok (.ireturn, 1) := by decide +kernel
theorem b_c10_law_7_1 : bdec cX10_law 7 [.iconst (-1)] = true := by decide +kernel
theorem d_c10_law_8 : decode cX10_law 8 = .ok (.ireturn, 1) := by decide +kernel
def f10_law (s0 : HM) (a0 : Nat) (p1 : Int32) : Option (Int32 × HM) := obd (f10_isLaw p1) (fun v2 => if v2 = 0 then (some (Int32.ofInt (-1), s0)) else (obd (hfld s0 [10] 1 a0) (fun v4 => orf v4 (fun b5 => obd (hfi s0 [2] 3 b5) (fun v6 => obd (hfld s0 [10] 1 a0) (fun v7 => orf v7 (fun b8 => obd (hput s0 [2] 3 b8 (.int p1)) (fun s9 => some (v6, s9)))))))))
set_option maxRecDepth 100000 in
set_option maxHeartbeats 4000000 in
theorem c10_law (l : Launch) (κ : KP) (A : Nat → Prop) (s0 : HM) (a0 : Nat) (p1 : Int32) {res : Int32 × HM} (hF : f10_law s0 a0 p1 = some res) : Met l yX10_law (Cond.code yX10_law cX10_law 3 (some .int) :: WT) (rmL 1 0 0) (PP κ A [.ref a0, .int p1] (HS κ A s0)) (QQ (some (.int res.1)) (HS κ A res.2) A) 0 0 A := by
  refine met_of (own := RX10) (by decide) rfl (Nat.le_of_ble_eq_true rfl) ?_
  intro Γ E hQ hL hR hA hent hini
  have hAA : ∀ q, A q → jA Γ q := fun q h => by rw [hA]; exact h
  have hroom : ∀ (d mL : Nat) {mc ms : Nat}, d < 1 → mL ≤ 21 → (rmL d mc ms).frames + 1 ≤ (jR Γ).frames ∧ 8 + (mL + 11) + (rmL d mc ms).locals ≤ (jR Γ).locals := fun d mL mc ms h1 h2 => by rw [hR]; exact rmL_le h1 h2
  show J Γ 3 (HS κ A s0) 0 0 0 [(0, .ref a0), (1, .int p1)] []
  unfold f10_law at hF
  refine j_blk (pc' := 1) (lv' := [(0, .ref a0), (1, .int p1)]) (st' := [.int p1]) E b_c10_law_0_1 rfl ?_
  replace hF := obd_at hF
  obtain ⟨v2, he1, hF⟩ := hF
  refine j_calls [.int p1] [] E w_RX10_127 (hroom 0 1 (by decide) (by decide)) hAA (c10_isLaw _ κ A (HS κ A s0) _  he1) (fun _ h => h) (fun _ _ _ h _ _ => h) rfl rfl (Nat.le_of_ble_eq_true rfl) d_c10_law_1 ⟨Nat.zero_le _, Nat.zero_le _⟩ ?_
  refine j_if_ne (tgt := 9) E d_c10_law_4 (by decide) (fun h3 => ?_) (fun h3 => ?_)
  · replace hF := g_f hF h3
    refine j_blk (pc' := 10) (lv' := [(0, .ref a0), (1, .int p1)]) (st' := [.ref a0]) E b_c10_law_9_1 rfl ?_
    replace hF := obd_at hF
    obtain ⟨v4, ev4, hF⟩ := hF
    refine j_getf E fg_RX10_23 d_c10_law_10 ev4 ?_
    replace hF := orf_at hF
    obtain ⟨b5, rfl, hF⟩ := hF
    replace hF := obd_at hF
    obtain ⟨v6, ev6, hF⟩ := hF
    refine j_getI E fg_RX10_130 d_c10_law_13 ev6 ?_
    refine j_blk (pc' := 18) (lv' := [(2, .int v6), (0, .ref a0), (1, .int p1)]) (st' := [.ref a0]) E b_c10_law_16_2 rfl ?_
    replace hF := obd_at hF
    obtain ⟨v7, ev7, hF⟩ := hF
    refine j_getf E fg_RX10_23 d_c10_law_18 ev7 ?_
    refine j_blk (pc' := 22) (lv' := [(2, .int v6), (0, .ref a0), (1, .int p1)]) (st' := [.int p1, v7]) E b_c10_law_21_1 rfl ?_
    replace hF := orf_at hF
    obtain ⟨b8, rfl, hF⟩ := hF
    replace hF := obd_at hF
    obtain ⟨s9, es9, hF⟩ := hF
    refine j_put E fp_RX10_130 d_c10_law_22 rfl rfl es9 hAA ?_
    refine j_blk (pc' := 26) (lv' := [(2, .int v6), (0, .ref a0), (1, .int p1)]) (st' := [.int v6]) E b_c10_law_25_1 rfl ?_
    have e : res = (v6, s9) := g_inj hF
    subst e
    exact j_iret E hQ d_c10_law_26 (fun _ h => h)
  · replace hF := g_t hF h3
    refine j_blk (pc' := 8) (lv' := [(0, .ref a0), (1, .int p1)]) (st' := [.int (Int32.ofInt (-1))]) E b_c10_law_7_1 rfl ?_
    have e : res = (Int32.ofInt (-1), s0) := g_inj hF
    subst e
    exact j_iret E hQ d_c10_law_8 (fun _ h => h)
theorem b_c10_cup_0_6 : bdec cX10_cup 0 [.bipush (-4), .istore_n 1, .iconst (-1), .istore_n 2, .iconst 0, .istore_n 3] = true := by decide +kernel
theorem b_c10_cup_7_2 : bdec cX10_cup 7 [.iload_n 3, .aload_n 0] = true := by decide +kernel
theorem d_c10_cup_9 : decode cX10_cup 9 = .ok (.getfield 23, 3) := by decide +kernel
theorem d_c10_cup_12 : decode cX10_cup 12 = .ok (.getfield 111, 3) := by decide +kernel
theorem d_c10_cup_15 : decode cX10_cup 15 = .ok (.if_icmp .ge 34, 3) := by decide +kernel
theorem b_c10_cup_18_1 : bdec cX10_cup 18 [.aload_n 0] = true := by decide +kernel
theorem d_c10_cup_19 : decode cX10_cup 19 = .ok (.getfield 23, 3) := by decide +kernel
theorem d_c10_cup_22 : decode cX10_cup 22 = .ok (.getfield 98, 3) := by decide +kernel
theorem b_c10_cup_25_1 : bdec cX10_cup 25 [.iload_n 3] = true := by decide +kernel
theorem d_c10_cup_26 : decode cX10_cup 26 = .ok (.iaload, 1) := by decide +kernel
theorem d_c10_cup_27 : decode cX10_cup 27 = .ok (.invokestatic 156, 3) := by decide +kernel
theorem b_c10_cup_30_3 : bdec cX10_cup 30 [.istore 4, .iload 4, .iload_n 2] = true := by decide +kernel
theorem d_c10_cup_35 : decode cX10_cup 35 = .ok (.if_icmp .le 8, 3) := by decide +kernel
theorem b_c10_cup_43_1 : bdec cX10_cup 43 [.iinc 3 1] = true := by decide +kernel
theorem d_c10_cup_46 : decode cX10_cup 46 = .ok (.goto (-39), 3) := by decide +kernel
theorem b_c10_cup_38_5 : bdec cX10_cup 38 [.iload_n 3, .istore_n 1, .iload 4, .istore_n 2, .iinc 3 1] = true := by decide +kernel
theorem b_c10_cup_49_1 : bdec cX10_cup 49 [.iload_n 1] = true := by decide +kernel
theorem d_c10_cup_50 : decode cX10_cup 50 = .ok (.ireturn, 1) := by decide +kernel
def f10_cup_L7 (s0 : HM) (a0 : Nat) (w : Int32 × Int32 × Int32) : Option ((Int32 × Int32 × Int32) ⊕ (Int32)) := match w with
  | (x7_1, x7_2, x7_3) => obd (hfld s0 [10] 1 a0) (fun v2 => orf v2 (fun b3 => obd (hfi s0 [2] 2 b3) (fun v4 => if v4 ≤ x7_3 then (some (.inr x7_1)) else (obd (hfld s0 [10] 1 a0) (fun v6 => orf v6 (fun b7 => obd (hfld s0 [2] 1 b7) (fun v8 => orf v8 (fun b9 => obd (hald s0 b9 x7_3) (fun v10 => obd (fJ6_bitCount_0f7a4 v10) (fun v12 => if v12 ≤ x7_2 then (some (.inl (x7_1, x7_2, x7_3 + Int32.ofInt 1))) else (some (.inl (x7_3, v12, x7_3 + Int32.ofInt 1)))))))))))))
def f10_cup (s0 : HM) (a0 : Nat) : Option (Int32) := obd (iter (f10_cup_L7 s0 a0) FU ((Int8.ofInt (-4)).toInt32, Int32.ofInt (-1), Int32.ofInt 0)) (fun o1 => match o1 with | e7_1 => some e7_1)
set_option maxRecDepth 100000 in
set_option maxHeartbeats 4000000 in
theorem c10_cup (l : Launch) (κ : KP) (A : Nat → Prop) (s0 : HM) (a0 : Nat) {res : Int32} (hF : f10_cup s0 a0 = some res) : Met l yX10_cup (Cond.code yX10_cup cX10_cup 5 (some .int) :: WT) (rmL 1 0 0) (PP κ A [.ref a0] (HS κ A s0)) (QQ (some (.int res)) (HS κ A s0) A) 0 0 A := by
  refine met_of (own := RX10) (by decide) rfl (Nat.le_of_ble_eq_true rfl) ?_
  intro Γ E hQ hL hR hA hent hini
  have hAA : ∀ q, A q → jA Γ q := fun q h => by rw [hA]; exact h
  have hroom : ∀ (d mL : Nat) {mc ms : Nat}, d < 1 → mL ≤ 21 → (rmL d mc ms).frames + 1 ≤ (jR Γ).frames ∧ 8 + (mL + 11) + (rmL d mc ms).locals ≤ (jR Γ).locals := fun d mL mc ms h1 h2 => by rw [hR]; exact rmL_le h1 h2
  show J Γ 5 (HS κ A s0) 0 0 0 [(0, .ref a0)] []
  unfold f10_cup at hF
  refine j_blk (pc' := 7) (lv' := [(3, .int (Int32.ofInt 0)), (2, .int (Int32.ofInt (-1))), (1, .int ((Int8.ofInt (-4)).toInt32)), (0, .ref a0)]) (st' := []) E b_c10_cup_0_6 rfl ?_
  refine j_lv [3, 2, 1, 0] rfl ?_
  replace hF := obd_at hF
  obtain ⟨o1, ho1, hF⟩ := hF
  have lpo1 : ∀ (fu : Nat) (w : Int32 × Int32 × Int32) (o : Int32), iter (f10_cup_L7 s0 a0) fu w = some o → (fun (o : Int32) => J Γ 5 (HS κ A s0) 0 0 49 [(1, .int o)] []) o → (fun (w : Int32 × Int32 × Int32) => J Γ 5 (HS κ A s0) 0 0 7 [(0, .ref a0), (1, .int w.1), (2, .int w.2.1), (3, .int w.2.2)] []) w := by
    refine j_iter (P := fun (w : Int32 × Int32 × Int32) => J Γ 5 (HS κ A s0) 0 0 7 [(0, .ref a0), (1, .int w.1), (2, .int w.2.1), (3, .int w.2.2)] []) (G := fun (o : Int32) => J Γ 5 (HS κ A s0) 0 0 49 [(1, .int o)] []) ?_
    rintro ⟨x7_1, x7_2, x7_3⟩ q hF hI hO
    show J Γ 5 (HS κ A s0) 0 0 7 [(0, .ref a0), (1, .int x7_1), (2, .int x7_2), (3, .int x7_3)] []
    unfold f10_cup_L7 at hF
    refine j_blk (pc' := 9) (lv' := [(0, .ref a0), (1, .int x7_1), (2, .int x7_2), (3, .int x7_3)]) (st' := [.ref a0, .int x7_3]) E b_c10_cup_7_2 rfl ?_
    replace hF := obd_at hF
    obtain ⟨v2, ev2, hF⟩ := hF
    refine j_getf E fg_RX10_23 d_c10_cup_9 ev2 ?_
    replace hF := orf_at hF
    obtain ⟨b3, rfl, hF⟩ := hF
    replace hF := obd_at hF
    obtain ⟨v4, ev4, hF⟩ := hF
    refine j_getI E fg_RX10_111 d_c10_cup_12 ev4 ?_
    refine j_icmp_ge (tgt := 49) E d_c10_cup_15 (by decide) (fun h5 => ?_) (fun h5 => ?_)
    · replace hF := g_t hF h5
      refine j_lv [1] rfl ?_
      exact hO _ (g_inj hF)
    · replace hF := g_f hF h5
      refine j_blk (pc' := 19) (lv' := [(0, .ref a0), (1, .int x7_1), (2, .int x7_2), (3, .int x7_3)]) (st' := [.ref a0]) E b_c10_cup_18_1 rfl ?_
      replace hF := obd_at hF
      obtain ⟨v6, ev6, hF⟩ := hF
      refine j_getf E fg_RX10_23 d_c10_cup_19 ev6 ?_
      replace hF := orf_at hF
      obtain ⟨b7, rfl, hF⟩ := hF
      replace hF := obd_at hF
      obtain ⟨v8, ev8, hF⟩ := hF
      refine j_getf E fg_RX10_98 d_c10_cup_22 ev8 ?_
      refine j_blk (pc' := 26) (lv' := [(0, .ref a0), (1, .int x7_1), (2, .int x7_2), (3, .int x7_3)]) (st' := [.int x7_3, v8]) E b_c10_cup_25_1 rfl ?_
      replace hF := orf_at hF
      obtain ⟨b9, rfl, hF⟩ := hF
      replace hF := obd_at hF
      obtain ⟨v10, ev10, hF⟩ := hF
      refine j_iald E d_c10_cup_26 ev10 ?_
      replace hF := obd_at hF
      obtain ⟨v12, he11, hF⟩ := hF
      refine j_calls [.int v10] [] E w_RX10_156 (hroom 0 1 (by decide) (by decide)) hAA (kJ6_bitCount_0f7a4 _ κ A (HS κ A s0) _  he11) (fun _ h => h) (fun _ _ _ h _ _ => h) rfl rfl (Nat.le_of_ble_eq_true rfl) d_c10_cup_27 ⟨Nat.zero_le _, Nat.zero_le _⟩ ?_
      refine j_blk (pc' := 35) (lv' := [(4, .int v12), (0, .ref a0), (1, .int x7_1), (2, .int x7_2), (3, .int x7_3)]) (st' := [.int x7_2, .int v12]) E b_c10_cup_30_3 rfl ?_
      refine j_icmp_le (tgt := 43) E d_c10_cup_35 (by decide) (fun h13 => ?_) (fun h13 => ?_)
      · replace hF := g_t hF h13
        refine j_blk (pc' := 46) (lv' := [(3, .int (x7_3 + Int32.ofInt 1)), (4, .int v12), (0, .ref a0), (1, .int x7_1), (2, .int x7_2)]) (st' := []) E b_c10_cup_43_1 rfl ?_
        refine j_goto (tgt := 7) E d_c10_cup_46 (by decide) ?_
        refine j_lv [2, 3, 4, 0] rfl ?_
        exact hI _ (g_inj hF)
      · replace hF := g_f hF h13
        refine j_blk (pc' := 46) (lv' := [(3, .int (x7_3 + Int32.ofInt 1)), (2, .int v12), (1, .int x7_3), (4, .int v12), (0, .ref a0)]) (st' := []) E b_c10_cup_38_5 rfl ?_
        refine j_goto (tgt := 7) E d_c10_cup_46 (by decide) ?_
        refine j_lv [4, 2, 1, 0] rfl ?_
        exact hI _ (g_inj hF)
  refine lpo1 FU ((Int8.ofInt (-4)).toInt32, Int32.ofInt (-1), Int32.ofInt 0) o1 ho1 ?_
  obtain ⟨e7_1, rfl⟩ : ∃ z, z = o1 := ⟨_, rfl⟩
  show J Γ 5 (HS κ A s0) 0 0 49 [(1, .int e7_1)] []
  refine j_blk (pc' := 50) (lv' := [(1, .int e7_1)]) (st' := [.int e7_1]) E b_c10_cup_49_1 rfl ?_
  have e : res = e7_1 := g_inj hF
  subst e
  exact j_iret E hQ d_c10_cup_50 (fun _ h => h)
theorem b_c10_round_0_1 : bdec cX10_round 0 [.iload_n 1] = true := by decide +kernel
theorem d_c10_round_1 : decode cX10_round 1 = .ok (.invokestatic 199, 3) := by decide +kernel
theorem d_c10_round_4 : decode cX10_round 4 = .ok (.ifCond .eq 10, 3) := by decide +kernel
theorem b_c10_round_14_1 : bdec cX10_round 14 [.iconst (-1)] = true := by decide +kernel
theorem d_c10_round_15 : decode cX10_round 15 = .ok (.ireturn, 1) := by decide +kernel
theorem b_c10_round_7_1 : bdec cX10_round 7 [.iload_n 3] = true := by decide +kernel
theorem d_c10_round_8 : decode cX10_round 8 = .ok (.invokestatic 127, 3) := by decide +kernel
theorem d_c10_round_11 : decode cX10_round 11 = .ok (.ifCond .ne 5, 3) := by decide +kernel
theorem b_c10_round_16_2 : bdec cX10_round 16 [.iload_n 1, .iload_n 2] = true := by decide +kernel
theorem d_c10_round_18 : decode cX10_round 18 = .ok (.invokestatic 201, 3) := by decide +kernel
theorem d_c10_round_21 : decode cX10_round 21 = .ok (.ifCond .ne 6, 3) := by decide +kernel
theorem b_c10_round_27_3 : bdec cX10_round 27 [.iload_n 1, .iload_n 2, .iload_n 3] = true := by decide +kernel
theorem d_c10_round_30 : decode cX10_round 30 = .ok (.invokestatic 204, 3) := by decide +kernel
theorem d_c10_round_33 : decode cX10_round 33 = .ok (.ifCond .eq 7, 3) := by decide +kernel
theorem b_c10_round_40_1 : bdec cX10_round 40 [.iconst 0] = true := by decide +kernel
theorem d_c10_round_41 : decode cX10_round 41 = .ok (.ireturn, 1) := by decide +kernel
theorem b_c10_round_36_1 : bdec cX10_round 36 [.iconst 1] = true := by decide +kernel
theorem d_c10_round_37 : decode cX10_round 37 = .ok (.goto 4, 3) := by decide +kernel
theorem b_c10_round_24_1 : bdec cX10_round 24 [.bipush (-3)] = true := by decide +kernel
theorem d_c10_round_26 : decode cX10_round 26 = .ok (.ireturn, 1) := by decide +kernel
def f10_round (s0 : HM) (a0 : Nat) (p1 : Int32) (p2 : Int32) (p3 : Int32) : Option (Int32) := obd (f10_isRing p1) (fun v2 => if v2 = 0 then (some (Int32.ofInt (-1))) else (obd (f10_isLaw p3) (fun v5 => if v5 = 0 then (some (Int32.ofInt (-1))) else (obd (f10_isHalfOfDifferences p1 p2) (fun v8 => if v8 = 0 then (some ((Int8.ofInt (-3)).toInt32)) else (obd (f10_isLawfulRing p1 p2 p3) (fun v11 => if v11 = 0 then (some (Int32.ofInt 0)) else (some (Int32.ofInt 1)))))))))
set_option maxRecDepth 100000 in
set_option maxHeartbeats 4000000 in
theorem c10_round (l : Launch) (κ : KP) (A : Nat → Prop) (s0 : HM) (a0 : Nat) (p1 : Int32) (p2 : Int32) (p3 : Int32) {res : Int32} (hF : f10_round s0 a0 p1 p2 p3 = some res) : Met l yX10_round (Cond.code yX10_round cX10_round 4 (some .int) :: WT) (rmL 1 0 0) (PP κ A [.ref a0, .int p1, .int p2, .int p3] (HS κ A s0)) (QQ (some (.int res)) (HS κ A s0) A) 0 0 A := by
  refine met_of (own := RX10) (by decide) rfl (Nat.le_of_ble_eq_true rfl) ?_
  intro Γ E hQ hL hR hA hent hini
  have hAA : ∀ q, A q → jA Γ q := fun q h => by rw [hA]; exact h
  have hroom : ∀ (d mL : Nat) {mc ms : Nat}, d < 1 → mL ≤ 21 → (rmL d mc ms).frames + 1 ≤ (jR Γ).frames ∧ 8 + (mL + 11) + (rmL d mc ms).locals ≤ (jR Γ).locals := fun d mL mc ms h1 h2 => by rw [hR]; exact rmL_le h1 h2
  show J Γ 4 (HS κ A s0) 0 0 0 [(0, .ref a0), (1, .int p1), (2, .int p2), (3, .int p3)] []
  unfold f10_round at hF
  refine j_blk (pc' := 1) (lv' := [(0, .ref a0), (1, .int p1), (2, .int p2), (3, .int p3)]) (st' := [.int p1]) E b_c10_round_0_1 rfl ?_
  replace hF := obd_at hF
  obtain ⟨v2, he1, hF⟩ := hF
  refine j_calls [.int p1] [] E w_RX10_199 (hroom 0 1 (by decide) (by decide)) hAA (c10_isRing _ κ A (HS κ A s0) _  he1) (fun _ h => h) (fun _ _ _ h _ _ => h) rfl rfl (Nat.le_of_ble_eq_true rfl) d_c10_round_1 ⟨Nat.zero_le _, Nat.zero_le _⟩ ?_
  refine j_if_eq (tgt := 14) E d_c10_round_4 (by decide) (fun h3 => ?_) (fun h3 => ?_)
  · replace hF := g_t hF h3
    refine j_blk (pc' := 15) (lv' := [(0, .ref a0), (1, .int p1), (2, .int p2), (3, .int p3)]) (st' := [.int (Int32.ofInt (-1))]) E b_c10_round_14_1 rfl ?_
    have e : res = Int32.ofInt (-1) := g_inj hF
    subst e
    exact j_iret E hQ d_c10_round_15 (fun _ h => h)
  · replace hF := g_f hF h3
    refine j_blk (pc' := 8) (lv' := [(0, .ref a0), (1, .int p1), (2, .int p2), (3, .int p3)]) (st' := [.int p3]) E b_c10_round_7_1 rfl ?_
    replace hF := obd_at hF
    obtain ⟨v5, he4, hF⟩ := hF
    refine j_calls [.int p3] [] E w_RX10_127 (hroom 0 1 (by decide) (by decide)) hAA (c10_isLaw _ κ A (HS κ A s0) _  he4) (fun _ h => h) (fun _ _ _ h _ _ => h) rfl rfl (Nat.le_of_ble_eq_true rfl) d_c10_round_8 ⟨Nat.zero_le _, Nat.zero_le _⟩ ?_
    refine j_if_ne (tgt := 16) E d_c10_round_11 (by decide) (fun h6 => ?_) (fun h6 => ?_)
    · replace hF := g_f hF h6
      refine j_blk (pc' := 18) (lv' := [(0, .ref a0), (1, .int p1), (2, .int p2), (3, .int p3)]) (st' := [.int p2, .int p1]) E b_c10_round_16_2 rfl ?_
      replace hF := obd_at hF
      obtain ⟨v8, he7, hF⟩ := hF
      refine j_calls [.int p1, .int p2] [] E w_RX10_201 (hroom 0 3 (by decide) (by decide)) hAA (c10_isHalfOfDifferences _ κ A (HS κ A s0) _ _  he7) (fun _ h => h) (fun _ _ _ h _ _ => h) rfl rfl (Nat.le_of_ble_eq_true rfl) d_c10_round_18 ⟨Nat.zero_le _, Nat.zero_le _⟩ ?_
      refine j_if_ne (tgt := 27) E d_c10_round_21 (by decide) (fun h9 => ?_) (fun h9 => ?_)
      · replace hF := g_f hF h9
        refine j_blk (pc' := 30) (lv' := [(0, .ref a0), (1, .int p1), (2, .int p2), (3, .int p3)]) (st' := [.int p3, .int p2, .int p1]) E b_c10_round_27_3 rfl ?_
        replace hF := obd_at hF
        obtain ⟨v11, he10, hF⟩ := hF
        refine j_calls [.int p1, .int p2, .int p3] [] E w_RX10_204 (hroom 0 7 (by decide) (by decide)) hAA (c10_isLawfulRing _ κ A (HS κ A s0) _ _ _  he10) (fun _ h => h) (fun _ _ _ h _ _ => h) rfl rfl (Nat.le_of_ble_eq_true rfl) d_c10_round_30 ⟨Nat.zero_le _, Nat.zero_le _⟩ ?_
        refine j_if_eq (tgt := 40) E d_c10_round_33 (by decide) (fun h12 => ?_) (fun h12 => ?_)
        · replace hF := g_t hF h12
          refine j_blk (pc' := 41) (lv' := [(0, .ref a0), (1, .int p1), (2, .int p2), (3, .int p3)]) (st' := [.int (Int32.ofInt 0)]) E b_c10_round_40_1 rfl ?_
          have e : res = Int32.ofInt 0 := g_inj hF
          subst e
          exact j_iret E hQ d_c10_round_41 (fun _ h => h)
        · replace hF := g_f hF h12
          refine j_blk (pc' := 37) (lv' := [(0, .ref a0), (1, .int p1), (2, .int p2), (3, .int p3)]) (st' := [.int (Int32.ofInt 1)]) E b_c10_round_36_1 rfl ?_
          refine j_goto (tgt := 41) E d_c10_round_37 (by decide) ?_
          have e : res = Int32.ofInt 1 := g_inj hF
          subst e
          exact j_iret E hQ d_c10_round_41 (fun _ h => h)
      · replace hF := g_t hF h9
        refine j_blk (pc' := 26) (lv' := [(0, .ref a0), (1, .int p1), (2, .int p2), (3, .int p3)]) (st' := [.int ((Int8.ofInt (-3)).toInt32)]) E b_c10_round_24_1 rfl ?_
        have e : res = (Int8.ofInt (-3)).toInt32 := g_inj hF
        subst e
        exact j_iret E hQ d_c10_round_26 (fun _ h => h)
    · replace hF := g_t hF h6
      refine j_blk (pc' := 15) (lv' := [(0, .ref a0), (1, .int p1), (2, .int p2), (3, .int p3)]) (st' := [.int (Int32.ofInt (-1))]) E b_c10_round_14_1 rfl ?_
      have e : res = Int32.ofInt (-1) := g_inj hF
      subst e
      exact j_iret E hQ d_c10_round_15 (fun _ h => h)
theorem b_c10_byRounds_0_1 : bdec cX10_byRounds 0 [.iload_n 1] = true := by decide +kernel
theorem d_c10_byRounds_1 : decode cX10_byRounds 1 = .ok (.invokestatic 199, 3) := by decide +kernel
theorem d_c10_byRounds_4 : decode cX10_byRounds 4 = .ok (.ifCond .eq 10, 3) := by decide +kernel
theorem b_c10_byRounds_14_1 : bdec cX10_byRounds 14 [.iconst (-1)] = true := by decide +kernel
theorem d_c10_byRounds_15 : decode cX10_byRounds 15 = .ok (.ireturn, 1) := by decide +kernel
theorem b_c10_byRounds_7_1 : bdec cX10_byRounds 7 [.iload_n 2] = true := by decide +kernel
theorem d_c10_byRounds_8 : decode cX10_byRounds 8 = .ok (.invokestatic 127, 3) := by decide +kernel
theorem d_c10_byRounds_11 : decode cX10_byRounds 11 = .ok (.ifCond .ne 5, 3) := by decide +kernel
theorem b_c10_byRounds_16_4 : bdec cX10_byRounds 16 [.iload_n 1, .iconst 1, .isub, .iconst 2] = true := by decide +kernel
theorem d_c10_byRounds_20 : decode cX10_byRounds 20 = .ok (.idiv, 1) := by decide +kernel
theorem b_c10_byRounds_21_3 : bdec cX10_byRounds 21 [.istore_n 3, .iconst 0, .istore 4] = true := by decide +kernel
theorem b_c10_byRounds_25_4 : bdec cX10_byRounds 25 [.iload 4, .iconst 1, .iload_n 3, .ishl] = true := by decide +kernel
theorem d_c10_byRounds_30 : decode cX10_byRounds 30 = .ok (.if_icmp .ge 30, 3) := by decide +kernel
theorem b_c10_byRounds_33_2 : bdec cX10_byRounds 33 [.iload_n 1, .iload 4] = true := by decide +kernel
theorem d_c10_byRounds_36 : decode cX10_byRounds 36 = .ok (.invokestatic 207, 3) := by decide +kernel
theorem b_c10_byRounds_39_4 : bdec cX10_byRounds 39 [.istore 5, .iload_n 1, .iload 5, .iload_n 2] = true := by decide +kernel
theorem d_c10_byRounds_45 : decode cX10_byRounds 45 = .ok (.invokestatic 204, 3) := by decide +kernel
theorem d_c10_byRounds_48 : decode cX10_byRounds 48 = .ok (.ifCond .eq 6, 3) := by decide +kernel
theorem b_c10_byRounds_54_1 : bdec cX10_byRounds 54 [.iinc 4 1] = true := by decide +kernel
theorem d_c10_byRounds_57 : decode cX10_byRounds 57 = .ok (.goto (-32), 3) := by decide +kernel
theorem b_c10_byRounds_51_1 : bdec cX10_byRounds 51 [.iload 5] = true := by decide +kernel
theorem d_c10_byRounds_53 : decode cX10_byRounds 53 = .ok (.ireturn, 1) := by decide +kernel
theorem b_c10_byRounds_60_1 : bdec cX10_byRounds 60 [.bipush (-4)] = true := by decide +kernel
theorem d_c10_byRounds_62 : decode cX10_byRounds 62 = .ok (.ireturn, 1) := by decide +kernel
def f10_byRounds_L25 (s0 : HM) (p1 : Int32) (p2 : Int32) (c25_3 : Int32) (w : Int32) : Option ((Int32) ⊕ ((Int32) ⊕ (Unit))) := match w with
  | x25_4 => if ((Int32.ofInt 1) <<< (c25_3 &&& 31)) ≤ x25_4 then (some (.inr (.inr ()))) else (obd (f10_setWithUpperHalf p1 x25_4) (fun v10 => obd (f10_isLawfulRing p1 v10 p2) (fun v12 => if v12 = 0 then (some (.inl (x25_4 + Int32.ofInt 1))) else (some (.inr (.inl v10))))))
def f10_byRounds (s0 : HM) (a0 : Nat) (p1 : Int32) (p2 : Int32) : Option (Int32) := obd (f10_isRing p1) (fun v2 => if v2 = 0 then (some (Int32.ofInt (-1))) else (obd (f10_isLaw p2) (fun v5 => if v5 = 0 then (some (Int32.ofInt (-1))) else (onz (Int32.ofInt 2) (obd (iter (f10_byRounds_L25 s0 p1 p2 ((p1 - (Int32.ofInt 1)) / (Int32.ofInt 2))) FU (Int32.ofInt 0)) (fun o7 => osm o7 (fun o7 => some o7) (fun o7 => some ((Int8.ofInt (-4)).toInt32))))))))
set_option maxRecDepth 100000 in
set_option maxHeartbeats 4000000 in
theorem c10_byRounds (l : Launch) (κ : KP) (A : Nat → Prop) (s0 : HM) (a0 : Nat) (p1 : Int32) (p2 : Int32) {res : Int32} (hF : f10_byRounds s0 a0 p1 p2 = some res) : Met l yX10_byRounds (Cond.code yX10_byRounds cX10_byRounds 6 (some .int) :: WT) (rmL 1 0 0) (PP κ A [.ref a0, .int p1, .int p2] (HS κ A s0)) (QQ (some (.int res)) (HS κ A s0) A) 0 0 A := by
  refine met_of (own := RX10) (by decide) rfl (Nat.le_of_ble_eq_true rfl) ?_
  intro Γ E hQ hL hR hA hent hini
  have hAA : ∀ q, A q → jA Γ q := fun q h => by rw [hA]; exact h
  have hroom : ∀ (d mL : Nat) {mc ms : Nat}, d < 1 → mL ≤ 21 → (rmL d mc ms).frames + 1 ≤ (jR Γ).frames ∧ 8 + (mL + 11) + (rmL d mc ms).locals ≤ (jR Γ).locals := fun d mL mc ms h1 h2 => by rw [hR]; exact rmL_le h1 h2
  show J Γ 6 (HS κ A s0) 0 0 0 [(0, .ref a0), (1, .int p1), (2, .int p2)] []
  unfold f10_byRounds at hF
  refine j_blk (pc' := 1) (lv' := [(0, .ref a0), (1, .int p1), (2, .int p2)]) (st' := [.int p1]) E b_c10_byRounds_0_1 rfl ?_
  replace hF := obd_at hF
  obtain ⟨v2, he1, hF⟩ := hF
  refine j_calls [.int p1] [] E w_RX10_199 (hroom 0 1 (by decide) (by decide)) hAA (c10_isRing _ κ A (HS κ A s0) _  he1) (fun _ h => h) (fun _ _ _ h _ _ => h) rfl rfl (Nat.le_of_ble_eq_true rfl) d_c10_byRounds_1 ⟨Nat.zero_le _, Nat.zero_le _⟩ ?_
  refine j_if_eq (tgt := 14) E d_c10_byRounds_4 (by decide) (fun h3 => ?_) (fun h3 => ?_)
  · replace hF := g_t hF h3
    refine j_blk (pc' := 15) (lv' := [(0, .ref a0), (1, .int p1), (2, .int p2)]) (st' := [.int (Int32.ofInt (-1))]) E b_c10_byRounds_14_1 rfl ?_
    have e : res = Int32.ofInt (-1) := g_inj hF
    subst e
    exact j_iret E hQ d_c10_byRounds_15 (fun _ h => h)
  · replace hF := g_f hF h3
    refine j_blk (pc' := 8) (lv' := [(0, .ref a0), (1, .int p1), (2, .int p2)]) (st' := [.int p2]) E b_c10_byRounds_7_1 rfl ?_
    replace hF := obd_at hF
    obtain ⟨v5, he4, hF⟩ := hF
    refine j_calls [.int p2] [] E w_RX10_127 (hroom 0 1 (by decide) (by decide)) hAA (c10_isLaw _ κ A (HS κ A s0) _  he4) (fun _ h => h) (fun _ _ _ h _ _ => h) rfl rfl (Nat.le_of_ble_eq_true rfl) d_c10_byRounds_8 ⟨Nat.zero_le _, Nat.zero_le _⟩ ?_
    refine j_if_ne (tgt := 16) E d_c10_byRounds_11 (by decide) (fun h6 => ?_) (fun h6 => ?_)
    · replace hF := g_f hF h6
      refine j_blk (pc' := 20) (lv' := [(0, .ref a0), (1, .int p1), (2, .int p2)]) (st' := [.int (Int32.ofInt 2), .int (p1 - (Int32.ofInt 1))]) E b_c10_byRounds_16_4 rfl ?_
      replace hF := onz_at hF
      obtain ⟨h0, hF⟩ := hF
      refine j_idiv E d_c10_byRounds_20 h0 ?_
      refine j_blk (pc' := 25) (lv' := [(4, .int (Int32.ofInt 0)), (3, .int ((p1 - (Int32.ofInt 1)) / (Int32.ofInt 2))), (0, .ref a0), (1, .int p1), (2, .int p2)]) (st' := []) E b_c10_byRounds_21_3 rfl ?_
      refine j_lv [3, 4, 1, 0] rfl ?_
      replace hF := obd_at hF
      obtain ⟨o7, ho7, hF⟩ := hF
      have lpo7 : ∀ (c25_3 : Int32), ∀ (fu : Nat) (w : Int32) (o : (Int32) ⊕ (Unit)), iter (f10_byRounds_L25 s0 p1 p2 c25_3) fu w = some o → (fun (o : (Int32) ⊕ (Unit)) => match o with | .inl r => r = res | .inr o => J Γ 6 (HS κ A s0) 0 0 60 [] []) o → (fun (w : Int32) => J Γ 6 (HS κ A s0) 0 0 25 [(1, .int p1), (2, .int p2), (3, .int c25_3), (4, .int w)] []) w := by
        intro c25_3
        refine j_iter (P := fun (w : Int32) => J Γ 6 (HS κ A s0) 0 0 25 [(1, .int p1), (2, .int p2), (3, .int c25_3), (4, .int w)] []) (G := fun (o : (Int32) ⊕ (Unit)) => match o with | .inl r => r = res | .inr o => J Γ 6 (HS κ A s0) 0 0 60 [] []) ?_
        intro x25_4 q hF hI hO
        show J Γ 6 (HS κ A s0) 0 0 25 [(1, .int p1), (2, .int p2), (3, .int c25_3), (4, .int x25_4)] []
        unfold f10_byRounds_L25 at hF
        refine j_blk (pc' := 30) (lv' := [(1, .int p1), (2, .int p2), (3, .int c25_3), (4, .int x25_4)]) (st' := [.int ((Int32.ofInt 1) <<< (c25_3 &&& 31)), .int x25_4]) E b_c10_byRounds_25_4 rfl ?_
        refine j_icmp_ge (tgt := 60) E d_c10_byRounds_30 (by decide) (fun h8 => ?_) (fun h8 => ?_)
        · replace hF := g_t hF h8
          refine j_lv [] rfl ?_
          exact hO _ (g_inj hF)
        · replace hF := g_f hF h8
          refine j_blk (pc' := 36) (lv' := [(1, .int p1), (2, .int p2), (3, .int c25_3), (4, .int x25_4)]) (st' := [.int x25_4, .int p1]) E b_c10_byRounds_33_2 rfl ?_
          replace hF := obd_at hF
          obtain ⟨v10, he9, hF⟩ := hF
          refine j_calls [.int p1, .int x25_4] [] E w_RX10_207 (hroom 0 5 (by decide) (by decide)) hAA (c10_setWithUpperHalf _ κ A (HS κ A s0) _ _  he9) (fun _ h => h) (fun _ _ _ h _ _ => h) rfl rfl (Nat.le_of_ble_eq_true rfl) d_c10_byRounds_36 ⟨Nat.zero_le _, Nat.zero_le _⟩ ?_
          refine j_blk (pc' := 45) (lv' := [(5, .int v10), (1, .int p1), (2, .int p2), (3, .int c25_3), (4, .int x25_4)]) (st' := [.int p2, .int v10, .int p1]) E b_c10_byRounds_39_4 rfl ?_
          replace hF := obd_at hF
          obtain ⟨v12, he11, hF⟩ := hF
          refine j_calls [.int p1, .int v10, .int p2] [] E w_RX10_204 (hroom 0 7 (by decide) (by decide)) hAA (c10_isLawfulRing _ κ A (HS κ A s0) _ _ _  he11) (fun _ h => h) (fun _ _ _ h _ _ => h) rfl rfl (Nat.le_of_ble_eq_true rfl) d_c10_byRounds_45 ⟨Nat.zero_le _, Nat.zero_le _⟩ ?_
          refine j_if_eq (tgt := 54) E d_c10_byRounds_48 (by decide) (fun h13 => ?_) (fun h13 => ?_)
          · replace hF := g_t hF h13
            refine j_blk (pc' := 57) (lv' := [(4, .int (x25_4 + Int32.ofInt 1)), (5, .int v10), (1, .int p1), (2, .int p2), (3, .int c25_3)]) (st' := []) E b_c10_byRounds_54_1 rfl ?_
            refine j_goto (tgt := 25) E d_c10_byRounds_57 (by decide) ?_
            refine j_lv [2, 3, 4, 0] rfl ?_
            exact hI _ (g_inj hF)
          · replace hF := g_f hF h13
            refine j_blk (pc' := 53) (lv' := [(5, .int v10), (1, .int p1), (2, .int p2), (3, .int c25_3), (4, .int x25_4)]) (st' := [.int v10]) E b_c10_byRounds_51_1 rfl ?_
            have e : v10 = res := hO _ (g_inj hF)
            subst e
            exact j_iret E hQ d_c10_byRounds_53 (fun _ h => h)
      refine lpo7 ((p1 - (Int32.ofInt 1)) / (Int32.ofInt 2)) FU (Int32.ofInt 0) o7 ho7 ?_
      rcases o7 with o7 | o7
      · exact (g_inj hF).symm
      · skip
        show J Γ 6 (HS κ A s0) 0 0 60 [] []
        refine j_blk (pc' := 62) (lv' := []) (st' := [.int ((Int8.ofInt (-4)).toInt32)]) E b_c10_byRounds_60_1 rfl ?_
        have e : res = (Int8.ofInt (-4)).toInt32 := g_inj hF
        subst e
        exact j_iret E hQ d_c10_byRounds_62 (fun _ h => h)
    · replace hF := g_t hF h6
      refine j_blk (pc' := 15) (lv' := [(0, .ref a0), (1, .int p1), (2, .int p2)]) (st' := [.int (Int32.ofInt (-1))]) E b_c10_byRounds_14_1 rfl ?_
      have e : res = Int32.ofInt (-1) := g_inj hF
      subst e
      exact j_iret E hQ d_c10_byRounds_15 (fun _ h => h)
theorem b_c10_image_0_1 : bdec cX10_image 0 [.aload_n 0] = true := by decide +kernel
theorem d_c10_image_1 : decode cX10_image 1 = .ok (.getfield 30, 3) := by decide +kernel
theorem b_c10_image_4_1 : bdec cX10_image 4 [.aload_n 0] = true := by decide +kernel
theorem d_c10_image_5 : decode cX10_image 5 = .ok (.getfield 23, 3) := by decide +kernel
theorem d_c10_image_8 : decode cX10_image 8 = .ok (.invokevirtual 63, 3) := by decide +kernel
theorem b_c10_image_11_2 : bdec cX10_image 11 [.aload_n 0, .iconst 1] = true := by decide +kernel
theorem d_c10_image_13 : decode cX10_image 13 = .ok (.putfield 33, 3) := by decide +kernel
theorem b_c10_image_16_1 : bdec cX10_image 16 [.aload_n 0] = true := by decide +kernel
theorem d_c10_image_17 : decode cX10_image 17 = .ok (.getfield 23, 3) := by decide +kernel
theorem d_c10_image_20 : decode cX10_image 20 = .ok (.getfield 111, 3) := by decide +kernel
theorem d_c10_image_23 : decode cX10_image 23 = .ok (.ireturn, 1) := by decide +kernel
def f10_image (s0 : HM) (a0 : Nat) : Option (Int32 × HM) := obd (hfld s0 [10] 3 a0) (fun v1 => obd (hfld s0 [10] 1 a0) (fun v2 => orf v2 (fun b3 => orf v1 (fun b4 => ocl s0 b4 2 (obd (f2_become s0 b4 b3) (fun s6 => obd (hput s6 [10] 4 a0 (.int (Int32.ofInt 1))) (fun s7 => obd (hfld s7 [10] 1 a0) (fun v8 => orf v8 (fun b9 => obd (hfi s7 [2] 2 b9) (fun v10 => some (v10, s7)))))))))))
set_option maxRecDepth 100000 in
set_option maxHeartbeats 4000000 in
theorem c10_image (l : Launch) (κ : KP) (A : Nat → Prop) (s0 : HM) (a0 : Nat) {res : Int32 × HM} (hF : f10_image s0 a0 = some res) : Met l yX10_image (Cond.code yX10_image cX10_image 1 (some .int) :: WT) (rmL 1 0 0) (PP κ A [.ref a0] (HS κ A s0)) (QQ (some (.int res.1)) (HS κ A res.2) A) 0 0 A := by
  refine met_of (own := RX10) (by decide) rfl (Nat.le_of_ble_eq_true rfl) ?_
  intro Γ E hQ hL hR hA hent hini
  have hAA : ∀ q, A q → jA Γ q := fun q h => by rw [hA]; exact h
  have hroom : ∀ (d mL : Nat) {mc ms : Nat}, d < 1 → mL ≤ 21 → (rmL d mc ms).frames + 1 ≤ (jR Γ).frames ∧ 8 + (mL + 11) + (rmL d mc ms).locals ≤ (jR Γ).locals := fun d mL mc ms h1 h2 => by rw [hR]; exact rmL_le h1 h2
  show J Γ 1 (HS κ A s0) 0 0 0 [(0, .ref a0)] []
  unfold f10_image at hF
  refine j_blk (pc' := 1) (lv' := [(0, .ref a0)]) (st' := [.ref a0]) E b_c10_image_0_1 rfl ?_
  replace hF := obd_at hF
  obtain ⟨v1, ev1, hF⟩ := hF
  refine j_getf E fg_RX10_30 d_c10_image_1 ev1 ?_
  refine j_blk (pc' := 5) (lv' := [(0, .ref a0)]) (st' := [.ref a0, v1]) E b_c10_image_4_1 rfl ?_
  replace hF := obd_at hF
  obtain ⟨v2, ev2, hF⟩ := hF
  refine j_getf E fg_RX10_23 d_c10_image_5 ev2 ?_
  replace hF := orf_at hF
  obtain ⟨b3, rfl, hF⟩ := hF
  replace hF := orf_at hF
  obtain ⟨b4, rfl, hF⟩ := hF
  replace hF := ocl_at hF
  obtain ⟨hc, hF⟩ := hF
  replace hF := obd_at hF
  obtain ⟨s6, he5, hF⟩ := hF
  refine j_callv [.ref b3] [] E w_RX10_63 (hroom 0 3 (by decide) (by decide)) hAA (c2_become _ κ A _ _ _  he5) (fun _ h => h) (fun _ _ _ h _ _ => h) (fun _ h => j_recv E h hc rfl) rfl rfl (Nat.le_of_ble_eq_true rfl) d_c10_image_8 ⟨Nat.zero_le _, Nat.zero_le _⟩ ?_
  refine j_blk (pc' := 13) (lv' := [(0, .ref a0)]) (st' := [.int (Int32.ofInt 1), .ref a0]) E b_c10_image_11_2 rfl ?_
  replace hF := obd_at hF
  obtain ⟨s7, es7, hF⟩ := hF
  refine j_put E fp_RX10_33 d_c10_image_13 nb_1 fb_1 es7 hAA ?_
  refine j_blk (pc' := 17) (lv' := [(0, .ref a0)]) (st' := [.ref a0]) E b_c10_image_16_1 rfl ?_
  replace hF := obd_at hF
  obtain ⟨v8, ev8, hF⟩ := hF
  refine j_getf E fg_RX10_23 d_c10_image_17 ev8 ?_
  replace hF := orf_at hF
  obtain ⟨b9, rfl, hF⟩ := hF
  replace hF := obd_at hF
  obtain ⟨v10, ev10, hF⟩ := hF
  refine j_getI E fg_RX10_111 d_c10_image_20 ev10 ?_
  have e : res = (v10, s7) := g_inj hF
  subst e
  exact j_iret E hQ d_c10_image_23 (fun _ h => h)
theorem b_c10_restore_0_1 : bdec cX10_restore 0 [.aload_n 0] = true := by decide +kernel
theorem d_c10_restore_1 : decode cX10_restore 1 = .ok (.getfield 33, 3) := by decide +kernel
theorem d_c10_restore_4 : decode cX10_restore 4 = .ok (.ifCond .ne 6, 3) := by decide +kernel
theorem b_c10_restore_10_1 : bdec cX10_restore 10 [.aload_n 0] = true := by decide +kernel
theorem d_c10_restore_11 : decode cX10_restore 11 = .ok (.getfield 23, 3) := by decide +kernel
theorem b_c10_restore_14_1 : bdec cX10_restore 14 [.aload_n 0] = true := by decide +kernel
theorem d_c10_restore_15 : decode cX10_restore 15 = .ok (.getfield 30, 3) := by decide +kernel
theorem d_c10_restore_18 : decode cX10_restore 18 = .ok (.invokevirtual 63, 3) := by decide +kernel
theorem b_c10_restore_21_1 : bdec cX10_restore 21 [.aload_n 0] = true := by decide +kernel
theorem d_c10_restore_22 : decode cX10_restore 22 = .ok (.getfield 23, 3) := by decide +kernel
theorem d_c10_restore_25 : decode cX10_restore 25 = .ok (.getfield 111, 3) := by decide +kernel
theorem d_c10_restore_28 : decode cX10_restore 28 = .ok (.ireturn, 1) := by decide +kernel
theorem b_c10_restore_7_1 : bdec cX10_restore 7 [.bipush (-3)] = true := by decide +kernel
theorem d_c10_restore_9 : decode cX10_restore 9 = .ok (.ireturn, 1) := by decide +kernel
def f10_restore (s0 : HM) (a0 : Nat) : Option (Int32 × HM) := obd (hfi s0 [10] 4 a0) (fun v1 => if v1 = 0 then (some ((Int8.ofInt (-3)).toInt32, s0)) else (obd (hfld s0 [10] 1 a0) (fun v3 => obd (hfld s0 [10] 3 a0) (fun v4 => orf v4 (fun b5 => orf v3 (fun b6 => ocl s0 b6 2 (obd (f2_become s0 b6 b5) (fun s8 => obd (hfld s8 [10] 1 a0) (fun v9 => orf v9 (fun b10 => obd (hfi s8 [2] 2 b10) (fun v11 => some (v11, s8))))))))))))
set_option maxRecDepth 100000 in
set_option maxHeartbeats 4000000 in
theorem c10_restore (l : Launch) (κ : KP) (A : Nat → Prop) (s0 : HM) (a0 : Nat) {res : Int32 × HM} (hF : f10_restore s0 a0 = some res) : Met l yX10_restore (Cond.code yX10_restore cX10_restore 1 (some .int) :: WT) (rmL 1 0 0) (PP κ A [.ref a0] (HS κ A s0)) (QQ (some (.int res.1)) (HS κ A res.2) A) 0 0 A := by
  refine met_of (own := RX10) (by decide) rfl (Nat.le_of_ble_eq_true rfl) ?_
  intro Γ E hQ hL hR hA hent hini
  have hAA : ∀ q, A q → jA Γ q := fun q h => by rw [hA]; exact h
  have hroom : ∀ (d mL : Nat) {mc ms : Nat}, d < 1 → mL ≤ 21 → (rmL d mc ms).frames + 1 ≤ (jR Γ).frames ∧ 8 + (mL + 11) + (rmL d mc ms).locals ≤ (jR Γ).locals := fun d mL mc ms h1 h2 => by rw [hR]; exact rmL_le h1 h2
  show J Γ 1 (HS κ A s0) 0 0 0 [(0, .ref a0)] []
  unfold f10_restore at hF
  refine j_blk (pc' := 1) (lv' := [(0, .ref a0)]) (st' := [.ref a0]) E b_c10_restore_0_1 rfl ?_
  replace hF := obd_at hF
  obtain ⟨v1, ev1, hF⟩ := hF
  refine j_getI E fg_RX10_33 d_c10_restore_1 ev1 ?_
  refine j_if_ne (tgt := 10) E d_c10_restore_4 (by decide) (fun h2 => ?_) (fun h2 => ?_)
  · replace hF := g_f hF h2
    refine j_blk (pc' := 11) (lv' := [(0, .ref a0)]) (st' := [.ref a0]) E b_c10_restore_10_1 rfl ?_
    replace hF := obd_at hF
    obtain ⟨v3, ev3, hF⟩ := hF
    refine j_getf E fg_RX10_23 d_c10_restore_11 ev3 ?_
    refine j_blk (pc' := 15) (lv' := [(0, .ref a0)]) (st' := [.ref a0, v3]) E b_c10_restore_14_1 rfl ?_
    replace hF := obd_at hF
    obtain ⟨v4, ev4, hF⟩ := hF
    refine j_getf E fg_RX10_30 d_c10_restore_15 ev4 ?_
    replace hF := orf_at hF
    obtain ⟨b5, rfl, hF⟩ := hF
    replace hF := orf_at hF
    obtain ⟨b6, rfl, hF⟩ := hF
    replace hF := ocl_at hF
    obtain ⟨hc, hF⟩ := hF
    replace hF := obd_at hF
    obtain ⟨s8, he7, hF⟩ := hF
    refine j_callv [.ref b5] [] E w_RX10_63 (hroom 0 3 (by decide) (by decide)) hAA (c2_become _ κ A _ _ _  he7) (fun _ h => h) (fun _ _ _ h _ _ => h) (fun _ h => j_recv E h hc rfl) rfl rfl (Nat.le_of_ble_eq_true rfl) d_c10_restore_18 ⟨Nat.zero_le _, Nat.zero_le _⟩ ?_
    refine j_blk (pc' := 22) (lv' := [(0, .ref a0)]) (st' := [.ref a0]) E b_c10_restore_21_1 rfl ?_
    replace hF := obd_at hF
    obtain ⟨v9, ev9, hF⟩ := hF
    refine j_getf E fg_RX10_23 d_c10_restore_22 ev9 ?_
    replace hF := orf_at hF
    obtain ⟨b10, rfl, hF⟩ := hF
    replace hF := obd_at hF
    obtain ⟨v11, ev11, hF⟩ := hF
    refine j_getI E fg_RX10_111 d_c10_restore_25 ev11 ?_
    have e : res = (v11, s8) := g_inj hF
    subst e
    exact j_iret E hQ d_c10_restore_28 (fun _ h => h)
  · replace hF := g_t hF h2
    refine j_blk (pc' := 9) (lv' := [(0, .ref a0)]) (st' := [.int ((Int8.ofInt (-3)).toInt32)]) E b_c10_restore_7_1 rfl ?_
    have e : res = ((Int8.ofInt (-3)).toInt32, s0) := g_inj hF
    subst e
    exact j_iret E hQ d_c10_restore_9 (fun _ h => h)
theorem b_c10_personOn_0_1 : bdec cX10_personOn 0 [.iload_n 1] = true := by decide +kernel
theorem d_c10_personOn_1 : decode cX10_personOn 1 = .ok (.invokestatic 211, 3) := by decide +kernel
theorem d_c10_personOn_4 : decode cX10_personOn 4 = .ok (.ifCond .eq 12, 3) := by decide +kernel
theorem b_c10_personOn_16_1 : bdec cX10_personOn 16 [.aconst_null] = true := by decide +kernel
theorem d_c10_personOn_17 : decode cX10_personOn 17 = .ok (.areturn, 1) := by decide +kernel
theorem b_c10_personOn_7_1 : bdec cX10_personOn 7 [.aload_n 0] = true := by decide +kernel
theorem d_c10_personOn_8 : decode cX10_personOn 8 = .ok (.getfield 37, 3) := by decide +kernel
theorem b_c10_personOn_11_1 : bdec cX10_personOn 11 [.iload_n 1] = true := by decide +kernel
theorem d_c10_personOn_12 : decode cX10_personOn 12 = .ok (.aaload, 1) := by decide +kernel
theorem d_c10_personOn_13 : decode cX10_personOn 13 = .ok (.goto 4, 3) := by decide +kernel
def f10_personOn (s0 : HM) (a0 : Nat) (p1 : Int32) : Option (Value) := obd (f10_isShelf p1) (fun v2 => if v2 = 0 then (some (.null : Value)) else (obd (hfld s0 [10] 5 a0) (fun v4 => orf v4 (fun b5 => obd (hrld s0 b5 p1) (fun v6 => ogd (isR v6) (some v6))))))
set_option maxRecDepth 100000 in
set_option maxHeartbeats 4000000 in
theorem c10_personOn (l : Launch) (κ : KP) (A : Nat → Prop) (s0 : HM) (a0 : Nat) (p1 : Int32) {res : Value} (hF : f10_personOn s0 a0 p1 = some res) : Met l yX10_personOn (Cond.code yX10_personOn cX10_personOn 2 (some (.object "OneBeatsBoth$Player")) :: WT) (rmL 1 0 0) (PP κ A [.ref a0, .int p1] (HS κ A s0)) (QQ (some res) (HS κ A s0) A) 0 0 A := by
  refine met_of (own := RX10) (by decide) rfl (Nat.le_of_ble_eq_true rfl) ?_
  intro Γ E hQ hL hR hA hent hini
  have hAA : ∀ q, A q → jA Γ q := fun q h => by rw [hA]; exact h
  have hroom : ∀ (d mL : Nat) {mc ms : Nat}, d < 1 → mL ≤ 21 → (rmL d mc ms).frames + 1 ≤ (jR Γ).frames ∧ 8 + (mL + 11) + (rmL d mc ms).locals ≤ (jR Γ).locals := fun d mL mc ms h1 h2 => by rw [hR]; exact rmL_le h1 h2
  show J Γ 2 (HS κ A s0) 0 0 0 [(0, .ref a0), (1, .int p1)] []
  unfold f10_personOn at hF
  refine j_blk (pc' := 1) (lv' := [(0, .ref a0), (1, .int p1)]) (st' := [.int p1]) E b_c10_personOn_0_1 rfl ?_
  replace hF := obd_at hF
  obtain ⟨v2, he1, hF⟩ := hF
  refine j_calls [.int p1] [] E w_RX10_211 (hroom 0 1 (by decide) (by decide)) hAA (c10_isShelf _ κ A (HS κ A s0) _  he1) (fun _ h => h) (fun _ _ _ h _ _ => h) rfl rfl (Nat.le_of_ble_eq_true rfl) d_c10_personOn_1 ⟨Nat.zero_le _, Nat.zero_le _⟩ ?_
  refine j_if_eq (tgt := 16) E d_c10_personOn_4 (by decide) (fun h3 => ?_) (fun h3 => ?_)
  · replace hF := g_t hF h3
    refine j_blk (pc' := 17) (lv' := [(0, .ref a0), (1, .int p1)]) (st' := [.null]) E b_c10_personOn_16_1 rfl ?_
    have e : res = (.null : Value) := g_inj hF
    subst e
    exact j_aret E hQ (Or.inl ⟨_, rfl⟩) (Or.inl rfl) d_c10_personOn_17 (fun _ h => h)
  · replace hF := g_f hF h3
    refine j_blk (pc' := 8) (lv' := [(0, .ref a0), (1, .int p1)]) (st' := [.ref a0]) E b_c10_personOn_7_1 rfl ?_
    replace hF := obd_at hF
    obtain ⟨v4, ev4, hF⟩ := hF
    refine j_getf E fg_RX10_37 d_c10_personOn_8 ev4 ?_
    refine j_blk (pc' := 12) (lv' := [(0, .ref a0), (1, .int p1)]) (st' := [.int p1, v4]) E b_c10_personOn_11_1 rfl ?_
    replace hF := orf_at hF
    obtain ⟨b5, rfl, hF⟩ := hF
    replace hF := obd_at hF
    obtain ⟨v6, ev6, hF⟩ := hF
    refine j_rald E d_c10_personOn_12 ev6 ?_
    refine j_goto (tgt := 17) E d_c10_personOn_13 (by decide) ?_
    replace hF := ogd_at hF
    obtain ⟨hb, hF⟩ := hF
    have e : res = v6 := g_inj hF
    subst e
    exact j_aret E hQ (Or.inl ⟨_, rfl⟩) (isR_n hb) d_c10_personOn_17 (fun _ h => h)
theorem b_c10_rowOn_0_1 : bdec cX10_rowOn 0 [.iload_n 1] = true := by decide +kernel
theorem d_c10_rowOn_1 : decode cX10_rowOn 1 = .ok (.invokestatic 211, 3) := by decide +kernel
theorem d_c10_rowOn_4 : decode cX10_rowOn 4 = .ok (.ifCond .eq 12, 3) := by decide +kernel
theorem b_c10_rowOn_16_1 : bdec cX10_rowOn 16 [.aconst_null] = true := by decide +kernel
theorem d_c10_rowOn_17 : decode cX10_rowOn 17 = .ok (.areturn, 1) := by decide +kernel
theorem b_c10_rowOn_7_1 : bdec cX10_rowOn 7 [.aload_n 0] = true := by decide +kernel
theorem d_c10_rowOn_8 : decode cX10_rowOn 8 = .ok (.getfield 43, 3) := by decide +kernel
theorem b_c10_rowOn_11_1 : bdec cX10_rowOn 11 [.iload_n 1] = true := by decide +kernel
theorem d_c10_rowOn_12 : decode cX10_rowOn 12 = .ok (.aaload, 1) := by decide +kernel
theorem d_c10_rowOn_13 : decode cX10_rowOn 13 = .ok (.goto 4, 3) := by decide +kernel
def f10_rowOn (s0 : HM) (a0 : Nat) (p1 : Int32) : Option (Value) := obd (f10_isShelf p1) (fun v2 => if v2 = 0 then (some (.null : Value)) else (obd (hfld s0 [10] 6 a0) (fun v4 => orf v4 (fun b5 => obd (hrld s0 b5 p1) (fun v6 => ogd (isR v6) (some v6))))))
set_option maxRecDepth 100000 in
set_option maxHeartbeats 4000000 in
theorem c10_rowOn (l : Launch) (κ : KP) (A : Nat → Prop) (s0 : HM) (a0 : Nat) (p1 : Int32) {res : Value} (hF : f10_rowOn s0 a0 p1 = some res) : Met l yX10_rowOn (Cond.code yX10_rowOn cX10_rowOn 2 (some (.object "OneBeatsBoth$Row")) :: WT) (rmL 1 0 0) (PP κ A [.ref a0, .int p1] (HS κ A s0)) (QQ (some res) (HS κ A s0) A) 0 0 A := by
  refine met_of (own := RX10) (by decide) rfl (Nat.le_of_ble_eq_true rfl) ?_
  intro Γ E hQ hL hR hA hent hini
  have hAA : ∀ q, A q → jA Γ q := fun q h => by rw [hA]; exact h
  have hroom : ∀ (d mL : Nat) {mc ms : Nat}, d < 1 → mL ≤ 21 → (rmL d mc ms).frames + 1 ≤ (jR Γ).frames ∧ 8 + (mL + 11) + (rmL d mc ms).locals ≤ (jR Γ).locals := fun d mL mc ms h1 h2 => by rw [hR]; exact rmL_le h1 h2
  show J Γ 2 (HS κ A s0) 0 0 0 [(0, .ref a0), (1, .int p1)] []
  unfold f10_rowOn at hF
  refine j_blk (pc' := 1) (lv' := [(0, .ref a0), (1, .int p1)]) (st' := [.int p1]) E b_c10_rowOn_0_1 rfl ?_
  replace hF := obd_at hF
  obtain ⟨v2, he1, hF⟩ := hF
  refine j_calls [.int p1] [] E w_RX10_211 (hroom 0 1 (by decide) (by decide)) hAA (c10_isShelf _ κ A (HS κ A s0) _  he1) (fun _ h => h) (fun _ _ _ h _ _ => h) rfl rfl (Nat.le_of_ble_eq_true rfl) d_c10_rowOn_1 ⟨Nat.zero_le _, Nat.zero_le _⟩ ?_
  refine j_if_eq (tgt := 16) E d_c10_rowOn_4 (by decide) (fun h3 => ?_) (fun h3 => ?_)
  · replace hF := g_t hF h3
    refine j_blk (pc' := 17) (lv' := [(0, .ref a0), (1, .int p1)]) (st' := [.null]) E b_c10_rowOn_16_1 rfl ?_
    have e : res = (.null : Value) := g_inj hF
    subst e
    exact j_aret E hQ (Or.inl ⟨_, rfl⟩) (Or.inl rfl) d_c10_rowOn_17 (fun _ h => h)
  · replace hF := g_f hF h3
    refine j_blk (pc' := 8) (lv' := [(0, .ref a0), (1, .int p1)]) (st' := [.ref a0]) E b_c10_rowOn_7_1 rfl ?_
    replace hF := obd_at hF
    obtain ⟨v4, ev4, hF⟩ := hF
    refine j_getf E fg_RX10_43 d_c10_rowOn_8 ev4 ?_
    refine j_blk (pc' := 12) (lv' := [(0, .ref a0), (1, .int p1)]) (st' := [.int p1, v4]) E b_c10_rowOn_11_1 rfl ?_
    replace hF := orf_at hF
    obtain ⟨b5, rfl, hF⟩ := hF
    replace hF := obd_at hF
    obtain ⟨v6, ev6, hF⟩ := hF
    refine j_rald E d_c10_rowOn_12 ev6 ?_
    refine j_goto (tgt := 17) E d_c10_rowOn_13 (by decide) ?_
    replace hF := ogd_at hF
    obtain ⟨hb, hF⟩ := hF
    have e : res = v6 := g_inj hF
    subst e
    exact j_aret E hQ (Or.inl ⟨_, rfl⟩) (isR_n hb) d_c10_rowOn_17 (fun _ h => h)
theorem b_c10_init_0_1 : bdec cX10_init 0 [.aload_n 0] = true := by decide +kernel
theorem d_c10_init_1 : decode cX10_init 1 = .ok (.invokespecial 1, 3) := by decide +kernel
theorem b_c10_init_4_1 : bdec cX10_init 4 [.aload_n 0] = true := by decide +kernel
theorem d_c10_init_5 : decode cX10_init 5 = .ok (.new 7, 3) := by decide +kernel
theorem b_c10_init_8_2 : bdec cX10_init 8 [.dup, .iconst 0] = true := by decide +kernel
theorem d_c10_init_10 : decode cX10_init 10 = .ok (.invokespecial 9, 3) := by decide +kernel
theorem d_c10_init_13 : decode cX10_init 13 = .ok (.putfield 12, 3) := by decide +kernel
theorem b_c10_init_16_1 : bdec cX10_init 16 [.aload_n 0] = true := by decide +kernel
theorem d_c10_init_17 : decode cX10_init 17 = .ok (.new 18, 3) := by decide +kernel
theorem b_c10_init_20_2 : bdec cX10_init 20 [.dup, .aload_n 0] = true := by decide +kernel
theorem d_c10_init_22 : decode cX10_init 22 = .ok (.getfield 12, 3) := by decide +kernel
theorem d_c10_init_25 : decode cX10_init 25 = .ok (.invokespecial 20, 3) := by decide +kernel
theorem d_c10_init_28 : decode cX10_init 28 = .ok (.putfield 23, 3) := by decide +kernel
theorem b_c10_init_31_1 : bdec cX10_init 31 [.aload_n 0] = true := by decide +kernel
theorem d_c10_init_32 : decode cX10_init 32 = .ok (.new 18, 3) := by decide +kernel
theorem b_c10_init_35_2 : bdec cX10_init 35 [.dup, .aload_n 0] = true := by decide +kernel
theorem d_c10_init_37 : decode cX10_init 37 = .ok (.getfield 12, 3) := by decide +kernel
theorem d_c10_init_40 : decode cX10_init 40 = .ok (.invokespecial 20, 3) := by decide +kernel
theorem d_c10_init_43 : decode cX10_init 43 = .ok (.putfield 27, 3) := by decide +kernel
theorem b_c10_init_46_1 : bdec cX10_init 46 [.aload_n 0] = true := by decide +kernel
theorem d_c10_init_47 : decode cX10_init 47 = .ok (.new 18, 3) := by decide +kernel
theorem b_c10_init_50_2 : bdec cX10_init 50 [.dup, .aload_n 0] = true := by decide +kernel
theorem d_c10_init_52 : decode cX10_init 52 = .ok (.getfield 12, 3) := by decide +kernel
theorem d_c10_init_55 : decode cX10_init 55 = .ok (.invokespecial 20, 3) := by decide +kernel
theorem d_c10_init_58 : decode cX10_init 58 = .ok (.putfield 30, 3) := by decide +kernel
theorem b_c10_init_61_2 : bdec cX10_init 61 [.aload_n 0, .iconst 0] = true := by decide +kernel
theorem d_c10_init_63 : decode cX10_init 63 = .ok (.putfield 33, 3) := by decide +kernel
theorem b_c10_init_66_2 : bdec cX10_init 66 [.aload_n 0, .bipush 8] = true := by decide +kernel
theorem d_c10_init_69 : decode cX10_init 69 = .ok (.anewarray 7, 3) := by decide +kernel
theorem d_c10_init_72 : decode cX10_init 72 = .ok (.putfield 37, 3) := by decide +kernel
theorem b_c10_init_75_2 : bdec cX10_init 75 [.aload_n 0, .bipush 8] = true := by decide +kernel
theorem d_c10_init_78 : decode cX10_init 78 = .ok (.anewarray 41, 3) := by decide +kernel
theorem d_c10_init_81 : decode cX10_init 81 = .ok (.putfield 43, 3) := by decide +kernel
theorem b_c10_init_84_2 : bdec cX10_init 84 [.aload_n 0, .bipush 8] = true := by decide +kernel
theorem d_c10_init_87 : decode cX10_init 87 = .ok (.newarray .int, 2) := by decide +kernel
theorem d_c10_init_89 : decode cX10_init 89 = .ok (.putfield 47, 3) := by decide +kernel
theorem d_c10_init_92 : decode cX10_init 92 = .ok (.return_, 1) := by decide +kernel
def f10_init (s0 : HM) (a0 : Nat) : Option (HM) := obd (f6_init (hnew s0 (.inl (6, [.int 0]))) s0.2 (Int32.ofInt 0)) (fun s2 => obd (hput s2 [10] 0 a0 (.ref s0.2)) (fun s3 => obd (hfld (hnew s3 (.inl (2, [.null, .null, .int 0, .int 0]))) [10] 0 a0) (fun v4 => orf v4 (fun b5 => obd (f2_init (hnew s3 (.inl (2, [.null, .null, .int 0, .int 0]))) s3.2 b5) (fun s7 => obd (hput s7 [10] 1 a0 (.ref s3.2)) (fun s8 => obd (hfld (hnew s8 (.inl (2, [.null, .null, .int 0, .int 0]))) [10] 0 a0) (fun v9 => orf v9 (fun b10 => obd (f2_init (hnew s8 (.inl (2, [.null, .null, .int 0, .int 0]))) s8.2 b10) (fun s12 => obd (hput s12 [10] 2 a0 (.ref s8.2)) (fun s13 => obd (hfld (hnew s13 (.inl (2, [.null, .null, .int 0, .int 0]))) [10] 0 a0) (fun v14 => orf v14 (fun b15 => obd (f2_init (hnew s13 (.inl (2, [.null, .null, .int 0, .int 0]))) s13.2 b15) (fun s17 => obd (hput s17 [10] 3 a0 (.ref s13.2)) (fun s18 => obd (hput s18 [10] 4 a0 (.int (Int32.ofInt 0))) (fun s19 => obd (hput (hnew s19 (.inr (.inr (false, 8, fun _ => none)))) [10] 5 a0 (.ref s19.2)) (fun s20 => obd (hput (hnew s20 (.inr (.inr (true, 8, fun _ => none)))) [10] 6 a0 (.ref s20.2)) (fun s21 => obd (hput (hnew s21 (.inr (.inl (8, fun _ => 0)))) [10] 7 a0 (.ref s21.2)) (fun s22 => some s22))))))))))))))))))
set_option maxRecDepth 100000 in
set_option maxHeartbeats 4000000 in
theorem c10_init (l : Launch) (κ : KP) (A : Nat → Prop) (hκ : kF κ = true) (s0 : HM) (a0 : Nat) {res : HM} (hF : f10_init s0 a0 = some res) : Met l yX10_init (Cond.code yX10_init cX10_init 1 none :: WT) (rmL 2 13 85) (PP κ A [.ref a0] (HS κ A s0)) (QQ none (HS κ A res) A) 13 85 A := by
  refine met_of (own := RX10) (by decide) rfl (Nat.le_of_ble_eq_true rfl) ?_
  intro Γ E hQ hL hR hA hent hini
  have hAA : ∀ q, A q → jA Γ q := fun q h => by rw [hA]; exact h
  have hroom : ∀ (d mL : Nat) {mc ms : Nat}, d < 2 → mL ≤ 21 → (rmL d mc ms).frames + 1 ≤ (jR Γ).frames ∧ 8 + (mL + 11) + (rmL d mc ms).locals ≤ (jR Γ).locals := fun d mL mc ms h1 h2 => by rw [hR]; exact rmL_le h1 h2
  show J Γ 1 (HS κ A s0) 0 0 0 [(0, .ref a0)] []
  unfold f10_init at hF
  refine j_blk (pc' := 1) (lv' := [(0, .ref a0)]) (st' := [.ref a0]) E b_c10_init_0_1 rfl ?_
  refine j_obj E ⟨m_70, m_71, m_72⟩ d_c10_init_1 (by rw [hR]; decide) (by rw [hR]; decide) ?_
  refine j_blk (pc' := 5) (lv' := [(0, .ref a0)]) (st' := [.ref a0]) E b_c10_init_4_1 rfl ?_
  refine j_new (ci := 6) (fs := [.int 0]) E rfl ⟨m_73, m_74, m_46⟩ ux_6 tyX6_ok (dv_6) d_c10_init_5 (by rw [hR]; decide) (by rw [hR]; decide) hκ ?_
  refine j_blk (pc' := 10) (lv' := [(0, .ref a0)]) (st' := [.int (Int32.ofInt 0), .ref s0.2, .ref s0.2, .ref a0]) E b_c10_init_8_2 rfl ?_
  replace hF := obd_at hF
  obtain ⟨s2, he1, hF⟩ := hF
  refine j_calli [.int (Int32.ofInt 0)] [.ref s0.2, .ref a0] E w_RX10_9 (hroom 1 2 (by decide) (by decide)) hAA (c6_init _ κ A _ _ _  he1) (fun _ h => h) (fun _ _ _ h _ _ => h) rfl rfl (Nat.le_of_ble_eq_true rfl) d_c10_init_10 ⟨by rw [hR]; decide, by rw [hR]; decide⟩ ?_
  replace hF := obd_at hF
  obtain ⟨s3, es3, hF⟩ := hF
  refine j_putF E fp_RX10_12 (hini rfl) d_c10_init_13 rfl rfl es3 hAA ?_
  refine j_blk (pc' := 17) (lv' := [(0, .ref a0)]) (st' := [.ref a0]) E b_c10_init_16_1 rfl ?_
  refine j_new (ci := 2) (fs := [.null, .null, .int 0, .int 0]) E rfl ⟨m_90, m_91, m_47⟩ ux_2 tyX2_ok (dv_2) d_c10_init_17 (by rw [hR]; decide) (by rw [hR]; decide) hκ ?_
  refine j_blk (pc' := 22) (lv' := [(0, .ref a0)]) (st' := [.ref a0, .ref s3.2, .ref s3.2, .ref a0]) E b_c10_init_20_2 rfl ?_
  replace hF := obd_at hF
  obtain ⟨v4, ev4, hF⟩ := hF
  refine j_getf E fg_RX10_12 d_c10_init_22 ev4 ?_
  replace hF := orf_at hF
  obtain ⟨b5, rfl, hF⟩ := hF
  replace hF := obd_at hF
  obtain ⟨s7, he6, hF⟩ := hF
  refine j_calli [.ref b5] [.ref s3.2, .ref a0] E w_RX10_20 (hroom 1 3 (by decide) (by decide)) hAA (c2_init _ κ A hκ _ _ _ he6) (fun _ h => h) (fun _ _ _ h _ _ => h) rfl rfl (Nat.le_of_ble_eq_true rfl) d_c10_init_25 ⟨by rw [hR]; decide, by rw [hR]; decide⟩ ?_
  replace hF := obd_at hF
  obtain ⟨s8, es8, hF⟩ := hF
  refine j_putF E fp_RX10_23 (hini rfl) d_c10_init_28 rfl rfl es8 hAA ?_
  refine j_blk (pc' := 32) (lv' := [(0, .ref a0)]) (st' := [.ref a0]) E b_c10_init_31_1 rfl ?_
  refine j_new (ci := 2) (fs := [.null, .null, .int 0, .int 0]) E rfl ⟨m_90, m_91, m_47⟩ ux_2 tyX2_ok (dv_2) d_c10_init_32 (by rw [hR]; decide) (by rw [hR]; decide) hκ ?_
  refine j_blk (pc' := 37) (lv' := [(0, .ref a0)]) (st' := [.ref a0, .ref s8.2, .ref s8.2, .ref a0]) E b_c10_init_35_2 rfl ?_
  replace hF := obd_at hF
  obtain ⟨v9, ev9, hF⟩ := hF
  refine j_getf E fg_RX10_12 d_c10_init_37 ev9 ?_
  replace hF := orf_at hF
  obtain ⟨b10, rfl, hF⟩ := hF
  replace hF := obd_at hF
  obtain ⟨s12, he11, hF⟩ := hF
  refine j_calli [.ref b10] [.ref s8.2, .ref a0] E w_RX10_20 (hroom 1 3 (by decide) (by decide)) hAA (c2_init _ κ A hκ _ _ _ he11) (fun _ h => h) (fun _ _ _ h _ _ => h) rfl rfl (Nat.le_of_ble_eq_true rfl) d_c10_init_40 ⟨by rw [hR]; decide, by rw [hR]; decide⟩ ?_
  replace hF := obd_at hF
  obtain ⟨s13, es13, hF⟩ := hF
  refine j_putF E fp_RX10_27 (hini rfl) d_c10_init_43 rfl rfl es13 hAA ?_
  refine j_blk (pc' := 47) (lv' := [(0, .ref a0)]) (st' := [.ref a0]) E b_c10_init_46_1 rfl ?_
  refine j_new (ci := 2) (fs := [.null, .null, .int 0, .int 0]) E rfl ⟨m_90, m_91, m_47⟩ ux_2 tyX2_ok (dv_2) d_c10_init_47 (by rw [hR]; decide) (by rw [hR]; decide) hκ ?_
  refine j_blk (pc' := 52) (lv' := [(0, .ref a0)]) (st' := [.ref a0, .ref s13.2, .ref s13.2, .ref a0]) E b_c10_init_50_2 rfl ?_
  replace hF := obd_at hF
  obtain ⟨v14, ev14, hF⟩ := hF
  refine j_getf E fg_RX10_12 d_c10_init_52 ev14 ?_
  replace hF := orf_at hF
  obtain ⟨b15, rfl, hF⟩ := hF
  replace hF := obd_at hF
  obtain ⟨s17, he16, hF⟩ := hF
  refine j_calli [.ref b15] [.ref s13.2, .ref a0] E w_RX10_20 (hroom 1 3 (by decide) (by decide)) hAA (c2_init _ κ A hκ _ _ _ he16) (fun _ h => h) (fun _ _ _ h _ _ => h) rfl rfl (Nat.le_of_ble_eq_true rfl) d_c10_init_55 ⟨by rw [hR]; decide, by rw [hR]; decide⟩ ?_
  replace hF := obd_at hF
  obtain ⟨s18, es18, hF⟩ := hF
  refine j_putF E fp_RX10_30 (hini rfl) d_c10_init_58 rfl rfl es18 hAA ?_
  refine j_blk (pc' := 63) (lv' := [(0, .ref a0)]) (st' := [.int (Int32.ofInt 0), .ref a0]) E b_c10_init_61_2 rfl ?_
  replace hF := obd_at hF
  obtain ⟨s19, es19, hF⟩ := hF
  refine j_put E fp_RX10_33 d_c10_init_63 nb_0 fb_0 es19 hAA ?_
  refine j_blk (pc' := 69) (lv' := [(0, .ref a0)]) (st' := [.int ((Int8.ofInt 8).toInt32), .ref a0]) E b_c10_init_66_2 rfl ?_
  refine j_newr (N := 8) false E ⟨m_73, n_97⟩ (by decide) (by decide) (by decide) d_c10_init_69 (by rw [hR]; decide) (by rw [hR]; decide) hκ ?_
  replace hF := obd_at hF
  obtain ⟨s20, es20, hF⟩ := hF
  refine j_putF E fp_RX10_37 (hini rfl) d_c10_init_72 rfl rfl es20 hAA ?_
  refine j_blk (pc' := 78) (lv' := [(0, .ref a0)]) (st' := [.int ((Int8.ofInt 8).toInt32), .ref a0]) E b_c10_init_75_2 rfl ?_
  refine j_newr (N := 8) true E ⟨m_116, n_117⟩ (by decide) (by decide) (by decide) d_c10_init_78 (by rw [hR]; decide) (by rw [hR]; decide) hκ ?_
  replace hF := obd_at hF
  obtain ⟨s21, es21, hF⟩ := hF
  refine j_putF E fp_RX10_43 (hini rfl) d_c10_init_81 rfl rfl es21 hAA ?_
  refine j_blk (pc' := 87) (lv' := [(0, .ref a0)]) (st' := [.int ((Int8.ofInt 8).toInt32), .ref a0]) E b_c10_init_84_2 rfl ?_
  refine j_newa (N := 8) E m_115 (by decide) (by decide) (by decide) d_c10_init_87 (by rw [hR]; decide) (by rw [hR]; decide) hκ ?_
  replace hF := obd_at hF
  obtain ⟨s22, es22, hF⟩ := hF
  refine j_putF E fp_RX10_47 (hini rfl) d_c10_init_89 rfl rfl es22 hAA ?_
  have e : res = s22 := g_inj hF
  subst e
  refine j_wid (k' := 13) (n' := 85) (by decide) (by decide) ?_
  exact j_vret E hQ d_c10_init_92 (fun _ h => h)
theorem b_c10_beat_0_1 : bdec cX10_beat 0 [.aload_n 0] = true := by decide +kernel
theorem d_c10_beat_1 : decode cX10_beat 1 = .ok (.getfield 23, 3) := by decide +kernel
theorem b_c10_beat_4_2 : bdec cX10_beat 4 [.iload_n 1, .iload_n 2] = true := by decide +kernel
theorem d_c10_beat_6 : decode cX10_beat 6 = .ok (.invokevirtual 116, 3) := by decide +kernel
theorem d_c10_beat_9 : decode cX10_beat 9 = .ok (.ifCond .ne 5, 3) := by decide +kernel
theorem b_c10_beat_14_1 : bdec cX10_beat 14 [.aload_n 0] = true := by decide +kernel
theorem d_c10_beat_15 : decode cX10_beat 15 = .ok (.getfield 23, 3) := by decide +kernel
theorem b_c10_beat_18_2 : bdec cX10_beat 18 [.iload_n 1, .iload_n 2] = true := by decide +kernel
theorem d_c10_beat_20 : decode cX10_beat 20 = .ok (.invokevirtual 120, 3) := by decide +kernel
theorem d_c10_beat_23 : decode cX10_beat 23 = .ok (.ifCond .eq 5, 3) := by decide +kernel
theorem b_c10_beat_28_1 : bdec cX10_beat 28 [.aload_n 0] = true := by decide +kernel
theorem d_c10_beat_29 : decode cX10_beat 29 = .ok (.getfield 23, 3) := by decide +kernel
theorem b_c10_beat_32_2 : bdec cX10_beat 32 [.iload_n 1, .iload_n 2] = true := by decide +kernel
theorem d_c10_beat_34 : decode cX10_beat 34 = .ok (.invokevirtual 123, 3) := by decide +kernel
theorem b_c10_beat_37_1 : bdec cX10_beat 37 [.iconst 1] = true := by decide +kernel
theorem d_c10_beat_38 : decode cX10_beat 38 = .ok (.ireturn, 1) := by decide +kernel
theorem b_c10_beat_26_1 : bdec cX10_beat 26 [.iconst 0] = true := by decide +kernel
theorem d_c10_beat_27 : decode cX10_beat 27 = .ok (.ireturn, 1) := by decide +kernel
theorem b_c10_beat_12_1 : bdec cX10_beat 12 [.iconst (-1)] = true := by decide +kernel
theorem d_c10_beat_13 : decode cX10_beat 13 = .ok (.ireturn, 1) := by decide +kernel
def f10_beat (s0 : HM) (a0 : Nat) (p1 : Int32) (p2 : Int32) : Option (Int32 × HM) := obd (hfld s0 [10] 1 a0) (fun v1 => orf v1 (fun b2 => ocl s0 b2 2 (obd (f2_hasBoth s0 b2 p1 p2) (fun v4 => if v4 = 0 then (some (Int32.ofInt (-1), s0)) else (obd (hfld s0 [10] 1 a0) (fun v6 => orf v6 (fun b7 => ocl s0 b7 2 (obd (f2_hasBeaten s0 b7 p1 p2) (fun v9 => if v9 = 0 then (obd (hfld s0 [10] 1 a0) (fun v11 => orf v11 (fun b12 => ocl s0 b12 2 (obd (f2_win s0 b12 p1 p2) (fun s14 => some (Int32.ofInt 1, s14)))))) else (some (Int32.ofInt 0, s0)))))))))))
set_option maxRecDepth 100000 in
set_option maxHeartbeats 4000000 in
theorem c10_beat (l : Launch) (κ : KP) (A : Nat → Prop) (s0 : HM) (a0 : Nat) (p1 : Int32) (p2 : Int32) {res : Int32 × HM} (hF : f10_beat s0 a0 p1 p2 = some res) : Met l yX10_beat (Cond.code yX10_beat cX10_beat 3 (some .int) :: WT) (rmL 2 0 0) (PP κ A [.ref a0, .int p1, .int p2] (HS κ A s0)) (QQ (some (.int res.1)) (HS κ A res.2) A) 0 0 A := by
  refine met_of (own := RX10) (by decide) rfl (Nat.le_of_ble_eq_true rfl) ?_
  intro Γ E hQ hL hR hA hent hini
  have hAA : ∀ q, A q → jA Γ q := fun q h => by rw [hA]; exact h
  have hroom : ∀ (d mL : Nat) {mc ms : Nat}, d < 2 → mL ≤ 21 → (rmL d mc ms).frames + 1 ≤ (jR Γ).frames ∧ 8 + (mL + 11) + (rmL d mc ms).locals ≤ (jR Γ).locals := fun d mL mc ms h1 h2 => by rw [hR]; exact rmL_le h1 h2
  show J Γ 3 (HS κ A s0) 0 0 0 [(0, .ref a0), (1, .int p1), (2, .int p2)] []
  unfold f10_beat at hF
  refine j_blk (pc' := 1) (lv' := [(0, .ref a0), (1, .int p1), (2, .int p2)]) (st' := [.ref a0]) E b_c10_beat_0_1 rfl ?_
  replace hF := obd_at hF
  obtain ⟨v1, ev1, hF⟩ := hF
  refine j_getf E fg_RX10_23 d_c10_beat_1 ev1 ?_
  refine j_blk (pc' := 6) (lv' := [(0, .ref a0), (1, .int p1), (2, .int p2)]) (st' := [.int p2, .int p1, v1]) E b_c10_beat_4_2 rfl ?_
  replace hF := orf_at hF
  obtain ⟨b2, rfl, hF⟩ := hF
  replace hF := ocl_at hF
  obtain ⟨hc, hF⟩ := hF
  replace hF := obd_at hF
  obtain ⟨v4, he3, hF⟩ := hF
  refine j_callv [.int p1, .int p2] [] E w_RX10_116 (hroom 1 3 (by decide) (by decide)) hAA (c2_hasBoth _ κ A _ _ _ _  he3) (fun _ h => h) (fun _ _ _ h _ _ => h) (fun _ h => j_recv E h hc rfl) rfl rfl (Nat.le_of_ble_eq_true rfl) d_c10_beat_6 ⟨Nat.zero_le _, Nat.zero_le _⟩ ?_
  refine j_if_ne (tgt := 14) E d_c10_beat_9 (by decide) (fun h5 => ?_) (fun h5 => ?_)
  · replace hF := g_f hF h5
    refine j_blk (pc' := 15) (lv' := [(0, .ref a0), (1, .int p1), (2, .int p2)]) (st' := [.ref a0]) E b_c10_beat_14_1 rfl ?_
    replace hF := obd_at hF
    obtain ⟨v6, ev6, hF⟩ := hF
    refine j_getf E fg_RX10_23 d_c10_beat_15 ev6 ?_
    refine j_blk (pc' := 20) (lv' := [(0, .ref a0), (1, .int p1), (2, .int p2)]) (st' := [.int p2, .int p1, v6]) E b_c10_beat_18_2 rfl ?_
    replace hF := orf_at hF
    obtain ⟨b7, rfl, hF⟩ := hF
    replace hF := ocl_at hF
    obtain ⟨hc, hF⟩ := hF
    replace hF := obd_at hF
    obtain ⟨v9, he8, hF⟩ := hF
    refine j_callv [.int p1, .int p2] [] E w_RX10_120 (hroom 0 3 (by decide) (by decide)) hAA (c2_hasBeaten _ κ A _ _ _ _  he8) (fun _ h => h) (fun _ _ _ h _ _ => h) (fun _ h => j_recv E h hc rfl) rfl rfl (Nat.le_of_ble_eq_true rfl) d_c10_beat_20 ⟨Nat.zero_le _, Nat.zero_le _⟩ ?_
    refine j_if_eq (tgt := 28) E d_c10_beat_23 (by decide) (fun h10 => ?_) (fun h10 => ?_)
    · replace hF := g_t hF h10
      refine j_blk (pc' := 29) (lv' := [(0, .ref a0), (1, .int p1), (2, .int p2)]) (st' := [.ref a0]) E b_c10_beat_28_1 rfl ?_
      replace hF := obd_at hF
      obtain ⟨v11, ev11, hF⟩ := hF
      refine j_getf E fg_RX10_23 d_c10_beat_29 ev11 ?_
      refine j_blk (pc' := 34) (lv' := [(0, .ref a0), (1, .int p1), (2, .int p2)]) (st' := [.int p2, .int p1, v11]) E b_c10_beat_32_2 rfl ?_
      replace hF := orf_at hF
      obtain ⟨b12, rfl, hF⟩ := hF
      replace hF := ocl_at hF
      obtain ⟨hc, hF⟩ := hF
      replace hF := obd_at hF
      obtain ⟨s14, he13, hF⟩ := hF
      refine j_callv [.int p1, .int p2] [] E w_RX10_123 (hroom 0 3 (by decide) (by decide)) hAA (c2_win _ κ A _ _ _ _  he13) (fun _ h => h) (fun _ _ _ h _ _ => h) (fun _ h => j_recv E h hc rfl) rfl rfl (Nat.le_of_ble_eq_true rfl) d_c10_beat_34 ⟨Nat.zero_le _, Nat.zero_le _⟩ ?_
      refine j_blk (pc' := 38) (lv' := [(0, .ref a0), (1, .int p1), (2, .int p2)]) (st' := [.int (Int32.ofInt 1)]) E b_c10_beat_37_1 rfl ?_
      have e : res = (Int32.ofInt 1, s14) := g_inj hF
      subst e
      exact j_iret E hQ d_c10_beat_38 (fun _ h => h)
    · replace hF := g_f hF h10
      refine j_blk (pc' := 27) (lv' := [(0, .ref a0), (1, .int p1), (2, .int p2)]) (st' := [.int (Int32.ofInt 0)]) E b_c10_beat_26_1 rfl ?_
      have e : res = (Int32.ofInt 0, s0) := g_inj hF
      subst e
      exact j_iret E hQ d_c10_beat_27 (fun _ h => h)
  · replace hF := g_t hF h5
    refine j_blk (pc' := 13) (lv' := [(0, .ref a0), (1, .int p1), (2, .int p2)]) (st' := [.int (Int32.ofInt (-1))]) E b_c10_beat_12_1 rfl ?_
    have e : res = (Int32.ofInt (-1), s0) := g_inj hF
    subst e
    exact j_iret E hQ d_c10_beat_13 (fun _ h => h)
theorem b_c10_rings_0_4 : bdec cX10_rings 0 [.iconst 0, .istore_n 1, .iconst 0, .istore_n 2] = true := by decide +kernel
theorem b_c10_rings_4_2 : bdec cX10_rings 4 [.iload_n 2, .aload_n 0] = true := by decide +kernel
theorem d_c10_rings_6 : decode cX10_rings 6 = .ok (.getfield 23, 3) := by decide +kernel
theorem d_c10_rings_9 : decode cX10_rings 9 = .ok (.getfield 111, 3) := by decide +kernel
theorem d_c10_rings_12 : decode cX10_rings 12 = .ok (.if_icmp .ge 70, 3) := by decide +kernel
theorem b_c10_rings_15_4 : bdec cX10_rings 15 [.iload_n 2, .iconst 1, .iadd, .istore_n 3] = true := by decide +kernel
theorem b_c10_rings_19_2 : bdec cX10_rings 19 [.iload_n 3, .aload_n 0] = true := by decide +kernel
theorem d_c10_rings_21 : decode cX10_rings 21 = .ok (.getfield 23, 3) := by decide +kernel
theorem d_c10_rings_24 : decode cX10_rings 24 = .ok (.getfield 111, 3) := by decide +kernel
theorem d_c10_rings_27 : decode cX10_rings 27 = .ok (.if_icmp .ge 49, 3) := by decide +kernel
theorem b_c10_rings_30_4 : bdec cX10_rings 30 [.iload_n 3, .iconst 1, .iadd, .istore 4] = true := by decide +kernel
theorem b_c10_rings_35_2 : bdec cX10_rings 35 [.iload 4, .aload_n 0] = true := by decide +kernel
theorem d_c10_rings_38 : decode cX10_rings 38 = .ok (.getfield 23, 3) := by decide +kernel
theorem d_c10_rings_41 : decode cX10_rings 41 = .ok (.getfield 111, 3) := by decide +kernel
theorem d_c10_rings_44 : decode cX10_rings 44 = .ok (.if_icmp .ge 26, 3) := by decide +kernel
theorem b_c10_rings_47_1 : bdec cX10_rings 47 [.aload_n 0] = true := by decide +kernel
theorem d_c10_rings_48 : decode cX10_rings 48 = .ok (.getfield 23, 3) := by decide +kernel
theorem b_c10_rings_51_3 : bdec cX10_rings 51 [.iload_n 2, .iload_n 3, .iload 4] = true := by decide +kernel
theorem d_c10_rings_55 : decode cX10_rings 55 = .ok (.invokevirtual 153, 3) := by decide +kernel
theorem d_c10_rings_58 : decode cX10_rings 58 = .ok (.ifCond .eq 6, 3) := by decide +kernel
theorem b_c10_rings_64_1 : bdec cX10_rings 64 [.iinc 4 1] = true := by decide +kernel
theorem d_c10_rings_67 : decode cX10_rings 67 = .ok (.goto (-32), 3) := by decide +kernel
theorem b_c10_rings_61_2 : bdec cX10_rings 61 [.iinc 1 1, .iinc 4 1] = true := by decide +kernel
theorem b_c10_rings_70_1 : bdec cX10_rings 70 [.iinc 3 1] = true := by decide +kernel
theorem d_c10_rings_73 : decode cX10_rings 73 = .ok (.goto (-54), 3) := by decide +kernel
theorem b_c10_rings_76_1 : bdec cX10_rings 76 [.iinc 2 1] = true := by decide +kernel
theorem d_c10_rings_79 : decode cX10_rings 79 = .ok (.goto (-75), 3) := by decide +kernel
theorem b_c10_rings_82_1 : bdec cX10_rings 82 [.iload_n 1] = true := by decide +kernel
theorem d_c10_rings_83 : decode cX10_rings 83 = .ok (.ireturn, 1) := by decide +kernel
def f10_rings_L35 (s0 : HM) (a0 : Nat) (x4_2 : Int32) (x19_3 : Int32) (w : Int32 × Int32) : Option ((Int32 × Int32) ⊕ (Int32)) := match w with
  | (x35_1, x35_4) => obd (hfld s0 [10] 1 a0) (fun v12 => orf v12 (fun b13 => obd (hfi s0 [2] 2 b13) (fun v14 => if v14 ≤ x35_4 then (some (.inr x35_1)) else (obd (hfld s0 [10] 1 a0) (fun v16 => orf v16 (fun b17 => ocl s0 b17 2 (obd (f2_isRing s0 b17 x4_2 x19_3 x35_4) (fun v19 => if v19 = 0 then (some (.inl (x35_1, x35_4 + Int32.ofInt 1))) else (some (.inl (x35_1 + Int32.ofInt 1, x35_4 + Int32.ofInt 1)))))))))))
def f10_rings_L19 (s0 : HM) (a0 : Nat) (x4_2 : Int32) (w : Int32 × Int32) : Option ((Int32 × Int32) ⊕ (Int32)) := match w with
  | (x19_1, x19_3) => obd (hfld s0 [10] 1 a0) (fun v7 => orf v7 (fun b8 => obd (hfi s0 [2] 2 b8) (fun v9 => if v9 ≤ x19_3 then (some (.inr x19_1)) else (obd (iter (f10_rings_L35 s0 a0 x4_2 x19_3) FU (x19_1, x19_3 + (Int32.ofInt 1))) (fun o11 => match o11 with | e35_1 => some (.inl (e35_1, x19_3 + Int32.ofInt 1)))))))
def f10_rings_L4 (s0 : HM) (a0 : Nat) (w : Int32 × Int32) : Option ((Int32 × Int32) ⊕ (Int32)) := match w with
  | (x4_1, x4_2) => obd (hfld s0 [10] 1 a0) (fun v2 => orf v2 (fun b3 => obd (hfi s0 [2] 2 b3) (fun v4 => if v4 ≤ x4_2 then (some (.inr x4_1)) else (obd (iter (f10_rings_L19 s0 a0 x4_2) FU (x4_1, x4_2 + (Int32.ofInt 1))) (fun o6 => match o6 with | e19_1 => some (.inl (e19_1, x4_2 + Int32.ofInt 1)))))))
def f10_rings (s0 : HM) (a0 : Nat) : Option (Int32) := obd (iter (f10_rings_L4 s0 a0) FU (Int32.ofInt 0, Int32.ofInt 0)) (fun o1 => match o1 with | e4_1 => some e4_1)
set_option maxRecDepth 100000 in
set_option maxHeartbeats 4000000 in
theorem c10_rings (l : Launch) (κ : KP) (A : Nat → Prop) (s0 : HM) (a0 : Nat) {res : Int32} (hF : f10_rings s0 a0 = some res) : Met l yX10_rings (Cond.code yX10_rings cX10_rings 5 (some .int) :: WT) (rmL 2 0 0) (PP κ A [.ref a0] (HS κ A s0)) (QQ (some (.int res)) (HS κ A s0) A) 0 0 A := by
  refine met_of (own := RX10) (by decide) rfl (Nat.le_of_ble_eq_true rfl) ?_
  intro Γ E hQ hL hR hA hent hini
  have hAA : ∀ q, A q → jA Γ q := fun q h => by rw [hA]; exact h
  have hroom : ∀ (d mL : Nat) {mc ms : Nat}, d < 2 → mL ≤ 21 → (rmL d mc ms).frames + 1 ≤ (jR Γ).frames ∧ 8 + (mL + 11) + (rmL d mc ms).locals ≤ (jR Γ).locals := fun d mL mc ms h1 h2 => by rw [hR]; exact rmL_le h1 h2
  show J Γ 5 (HS κ A s0) 0 0 0 [(0, .ref a0)] []
  unfold f10_rings at hF
  refine j_blk (pc' := 4) (lv' := [(2, .int (Int32.ofInt 0)), (1, .int (Int32.ofInt 0)), (0, .ref a0)]) (st' := []) E b_c10_rings_0_4 rfl ?_
  refine j_lv [2, 1, 0] rfl ?_
  replace hF := obd_at hF
  obtain ⟨o1, ho1, hF⟩ := hF
  have lpo1 : ∀ (fu : Nat) (w : Int32 × Int32) (o : Int32), iter (f10_rings_L4 s0 a0) fu w = some o → (fun (o : Int32) => J Γ 5 (HS κ A s0) 0 0 82 [(1, .int o)] []) o → (fun (w : Int32 × Int32) => J Γ 5 (HS κ A s0) 0 0 4 [(0, .ref a0), (1, .int w.1), (2, .int w.2)] []) w := by
    refine j_iter (P := fun (w : Int32 × Int32) => J Γ 5 (HS κ A s0) 0 0 4 [(0, .ref a0), (1, .int w.1), (2, .int w.2)] []) (G := fun (o : Int32) => J Γ 5 (HS κ A s0) 0 0 82 [(1, .int o)] []) ?_
    rintro ⟨x4_1, x4_2⟩ q hF hI hO
    show J Γ 5 (HS κ A s0) 0 0 4 [(0, .ref a0), (1, .int x4_1), (2, .int x4_2)] []
    unfold f10_rings_L4 at hF
    refine j_blk (pc' := 6) (lv' := [(0, .ref a0), (1, .int x4_1), (2, .int x4_2)]) (st' := [.ref a0, .int x4_2]) E b_c10_rings_4_2 rfl ?_
    replace hF := obd_at hF
    obtain ⟨v2, ev2, hF⟩ := hF
    refine j_getf E fg_RX10_23 d_c10_rings_6 ev2 ?_
    replace hF := orf_at hF
    obtain ⟨b3, rfl, hF⟩ := hF
    replace hF := obd_at hF
    obtain ⟨v4, ev4, hF⟩ := hF
    refine j_getI E fg_RX10_111 d_c10_rings_9 ev4 ?_
    refine j_icmp_ge (tgt := 82) E d_c10_rings_12 (by decide) (fun h5 => ?_) (fun h5 => ?_)
    · replace hF := g_t hF h5
      refine j_lv [1] rfl ?_
      exact hO _ (g_inj hF)
    · replace hF := g_f hF h5
      refine j_blk (pc' := 19) (lv' := [(3, .int (x4_2 + (Int32.ofInt 1))), (0, .ref a0), (1, .int x4_1), (2, .int x4_2)]) (st' := []) E b_c10_rings_15_4 rfl ?_
      refine j_lv [1, 2, 3, 0] rfl ?_
      replace hF := obd_at hF
      obtain ⟨o6, ho6, hF⟩ := hF
      have lpo6 : ∀ (fu : Nat) (w : Int32 × Int32) (o : Int32), iter (f10_rings_L19 s0 a0 x4_2) fu w = some o → (fun (o : Int32) => J Γ 5 (HS κ A s0) 0 0 76 [(0, .ref a0), (1, .int o), (2, .int x4_2)] []) o → (fun (w : Int32 × Int32) => J Γ 5 (HS κ A s0) 0 0 19 [(0, .ref a0), (1, .int w.1), (2, .int x4_2), (3, .int w.2)] []) w := by
        refine j_iter (P := fun (w : Int32 × Int32) => J Γ 5 (HS κ A s0) 0 0 19 [(0, .ref a0), (1, .int w.1), (2, .int x4_2), (3, .int w.2)] []) (G := fun (o : Int32) => J Γ 5 (HS κ A s0) 0 0 76 [(0, .ref a0), (1, .int o), (2, .int x4_2)] []) ?_
        rintro ⟨x19_1, x19_3⟩ q hF hI hO
        show J Γ 5 (HS κ A s0) 0 0 19 [(0, .ref a0), (1, .int x19_1), (2, .int x4_2), (3, .int x19_3)] []
        unfold f10_rings_L19 at hF
        refine j_blk (pc' := 21) (lv' := [(0, .ref a0), (1, .int x19_1), (2, .int x4_2), (3, .int x19_3)]) (st' := [.ref a0, .int x19_3]) E b_c10_rings_19_2 rfl ?_
        replace hF := obd_at hF
        obtain ⟨v7, ev7, hF⟩ := hF
        refine j_getf E fg_RX10_23 d_c10_rings_21 ev7 ?_
        replace hF := orf_at hF
        obtain ⟨b8, rfl, hF⟩ := hF
        replace hF := obd_at hF
        obtain ⟨v9, ev9, hF⟩ := hF
        refine j_getI E fg_RX10_111 d_c10_rings_24 ev9 ?_
        refine j_icmp_ge (tgt := 76) E d_c10_rings_27 (by decide) (fun h10 => ?_) (fun h10 => ?_)
        · replace hF := g_t hF h10
          refine j_lv [0, 1, 2] rfl ?_
          exact hO _ (g_inj hF)
        · replace hF := g_f hF h10
          refine j_blk (pc' := 35) (lv' := [(4, .int (x19_3 + (Int32.ofInt 1))), (0, .ref a0), (1, .int x19_1), (2, .int x4_2), (3, .int x19_3)]) (st' := []) E b_c10_rings_30_4 rfl ?_
          refine j_lv [1, 2, 3, 4, 0] rfl ?_
          replace hF := obd_at hF
          obtain ⟨o11, ho11, hF⟩ := hF
          have lpo11 : ∀ (fu : Nat) (w : Int32 × Int32) (o : Int32), iter (f10_rings_L35 s0 a0 x4_2 x19_3) fu w = some o → (fun (o : Int32) => J Γ 5 (HS κ A s0) 0 0 70 [(0, .ref a0), (1, .int o), (2, .int x4_2), (3, .int x19_3)] []) o → (fun (w : Int32 × Int32) => J Γ 5 (HS κ A s0) 0 0 35 [(0, .ref a0), (1, .int w.1), (2, .int x4_2), (3, .int x19_3), (4, .int w.2)] []) w := by
            refine j_iter (P := fun (w : Int32 × Int32) => J Γ 5 (HS κ A s0) 0 0 35 [(0, .ref a0), (1, .int w.1), (2, .int x4_2), (3, .int x19_3), (4, .int w.2)] []) (G := fun (o : Int32) => J Γ 5 (HS κ A s0) 0 0 70 [(0, .ref a0), (1, .int o), (2, .int x4_2), (3, .int x19_3)] []) ?_
            rintro ⟨x35_1, x35_4⟩ q hF hI hO
            show J Γ 5 (HS κ A s0) 0 0 35 [(0, .ref a0), (1, .int x35_1), (2, .int x4_2), (3, .int x19_3), (4, .int x35_4)] []
            unfold f10_rings_L35 at hF
            refine j_blk (pc' := 38) (lv' := [(0, .ref a0), (1, .int x35_1), (2, .int x4_2), (3, .int x19_3), (4, .int x35_4)]) (st' := [.ref a0, .int x35_4]) E b_c10_rings_35_2 rfl ?_
            replace hF := obd_at hF
            obtain ⟨v12, ev12, hF⟩ := hF
            refine j_getf E fg_RX10_23 d_c10_rings_38 ev12 ?_
            replace hF := orf_at hF
            obtain ⟨b13, rfl, hF⟩ := hF
            replace hF := obd_at hF
            obtain ⟨v14, ev14, hF⟩ := hF
            refine j_getI E fg_RX10_111 d_c10_rings_41 ev14 ?_
            refine j_icmp_ge (tgt := 70) E d_c10_rings_44 (by decide) (fun h15 => ?_) (fun h15 => ?_)
            · replace hF := g_t hF h15
              refine j_lv [0, 1, 2, 3] rfl ?_
              exact hO _ (g_inj hF)
            · replace hF := g_f hF h15
              refine j_blk (pc' := 48) (lv' := [(0, .ref a0), (1, .int x35_1), (2, .int x4_2), (3, .int x19_3), (4, .int x35_4)]) (st' := [.ref a0]) E b_c10_rings_47_1 rfl ?_
              replace hF := obd_at hF
              obtain ⟨v16, ev16, hF⟩ := hF
              refine j_getf E fg_RX10_23 d_c10_rings_48 ev16 ?_
              refine j_blk (pc' := 55) (lv' := [(0, .ref a0), (1, .int x35_1), (2, .int x4_2), (3, .int x19_3), (4, .int x35_4)]) (st' := [.int x35_4, .int x19_3, .int x4_2, v16]) E b_c10_rings_51_3 rfl ?_
              replace hF := orf_at hF
              obtain ⟨b17, rfl, hF⟩ := hF
              replace hF := ocl_at hF
              obtain ⟨hc, hF⟩ := hF
              replace hF := obd_at hF
              obtain ⟨v19, he18, hF⟩ := hF
              refine j_callv [.int x4_2, .int x19_3, .int x35_4] [] E w_RX10_153 (hroom 1 5 (by decide) (by decide)) hAA (c2_isRing _ κ A _ _ _ _ _  he18) (fun _ h => h) (fun _ _ _ h _ _ => h) (fun _ h => j_recv E h hc rfl) rfl rfl (Nat.le_of_ble_eq_true rfl) d_c10_rings_55 ⟨Nat.zero_le _, Nat.zero_le _⟩ ?_
              refine j_if_eq (tgt := 64) E d_c10_rings_58 (by decide) (fun h20 => ?_) (fun h20 => ?_)
              · replace hF := g_t hF h20
                refine j_blk (pc' := 67) (lv' := [(4, .int (x35_4 + Int32.ofInt 1)), (0, .ref a0), (1, .int x35_1), (2, .int x4_2), (3, .int x19_3)]) (st' := []) E b_c10_rings_64_1 rfl ?_
                refine j_goto (tgt := 35) E d_c10_rings_67 (by decide) ?_
                refine j_lv [1, 2, 3, 4, 0] rfl ?_
                exact hI _ (g_inj hF)
              · replace hF := g_f hF h20
                refine j_blk (pc' := 67) (lv' := [(4, .int (x35_4 + Int32.ofInt 1)), (1, .int (x35_1 + Int32.ofInt 1)), (0, .ref a0), (2, .int x4_2), (3, .int x19_3)]) (st' := []) E b_c10_rings_61_2 rfl ?_
                refine j_goto (tgt := 35) E d_c10_rings_67 (by decide) ?_
                refine j_lv [2, 1, 3, 4, 0] rfl ?_
                exact hI _ (g_inj hF)
          refine lpo11 FU (x19_1, x19_3 + (Int32.ofInt 1)) o11 ho11 ?_
          obtain ⟨e35_1, rfl⟩ : ∃ z, z = o11 := ⟨_, rfl⟩
          show J Γ 5 (HS κ A s0) 0 0 70 [(0, .ref a0), (1, .int e35_1), (2, .int x4_2), (3, .int x19_3)] []
          refine j_blk (pc' := 73) (lv' := [(3, .int (x19_3 + Int32.ofInt 1)), (0, .ref a0), (1, .int e35_1), (2, .int x4_2)]) (st' := []) E b_c10_rings_70_1 rfl ?_
          refine j_goto (tgt := 19) E d_c10_rings_73 (by decide) ?_
          refine j_lv [1, 2, 3, 0] rfl ?_
          exact hI _ (g_inj hF)
      refine lpo6 FU (x4_1, x4_2 + (Int32.ofInt 1)) o6 ho6 ?_
      obtain ⟨e19_1, rfl⟩ : ∃ z, z = o6 := ⟨_, rfl⟩
      show J Γ 5 (HS κ A s0) 0 0 76 [(0, .ref a0), (1, .int e19_1), (2, .int x4_2)] []
      refine j_blk (pc' := 79) (lv' := [(2, .int (x4_2 + Int32.ofInt 1)), (0, .ref a0), (1, .int e19_1)]) (st' := []) E b_c10_rings_76_1 rfl ?_
      refine j_goto (tgt := 4) E d_c10_rings_79 (by decide) ?_
      refine j_lv [1, 2, 0] rfl ?_
      exact hI _ (g_inj hF)
  refine lpo1 FU (Int32.ofInt 0, Int32.ofInt 0) o1 ho1 ?_
  obtain ⟨e4_1, rfl⟩ : ∃ z, z = o1 := ⟨_, rfl⟩
  show J Γ 5 (HS κ A s0) 0 0 82 [(1, .int e4_1)] []
  refine j_blk (pc' := 83) (lv' := [(1, .int e4_1)]) (st' := [.int e4_1]) E b_c10_rings_82_1 rfl ?_
  have e : res = e4_1 := g_inj hF
  subst e
  exact j_iret E hQ d_c10_rings_83 (fun _ h => h)
theorem b_c10_isBare_0_2 : bdec cX10_isBare 0 [.aload_n 0, .iload_n 1] = true := by decide +kernel
theorem d_c10_isBare_2 : decode cX10_isBare 2 = .ok (.invokevirtual 107, 3) := by decide +kernel
theorem d_c10_isBare_5 : decode cX10_isBare 5 = .ok (.ifnonnull 15, 3) := by decide +kernel
theorem b_c10_isBare_8_2 : bdec cX10_isBare 8 [.aload_n 0, .iload_n 1] = true := by decide +kernel
theorem d_c10_isBare_10 : decode cX10_isBare 10 = .ok (.invokevirtual 217, 3) := by decide +kernel
theorem d_c10_isBare_13 : decode cX10_isBare 13 = .ok (.ifnonnull 7, 3) := by decide +kernel
theorem b_c10_isBare_16_1 : bdec cX10_isBare 16 [.iconst 1] = true := by decide +kernel
theorem d_c10_isBare_17 : decode cX10_isBare 17 = .ok (.goto 4, 3) := by decide +kernel
theorem d_c10_isBare_21 : decode cX10_isBare 21 = .ok (.ireturn, 1) := by decide +kernel
theorem b_c10_isBare_20_1 : bdec cX10_isBare 20 [.iconst 0] = true := by decide +kernel
def f10_isBare (s0 : HM) (a0 : Nat) (p1 : Int32) : Option (Int32) := ocl s0 a0 10 (obd (f10_personOn s0 a0 p1) (fun v2 => onl v2 (ocl s0 a0 10 (obd (f10_rowOn s0 a0 p1) (fun v5 => onl v5 (some (Int32.ofInt 1)) (fun b6 => some (Int32.ofInt 0))))) (fun b3 => some (Int32.ofInt 0))))
set_option maxRecDepth 100000 in
set_option maxHeartbeats 4000000 in
theorem c10_isBare (l : Launch) (κ : KP) (A : Nat → Prop) (s0 : HM) (a0 : Nat) (p1 : Int32) {res : Int32} (hF : f10_isBare s0 a0 p1 = some res) : Met l yX10_isBare (Cond.code yX10_isBare cX10_isBare 2 (some .boolean) :: WT) (rmL 2 0 0) (PP κ A [.ref a0, .int p1] (HS κ A s0)) (QQ (some (.int res)) (HS κ A s0) A) 0 0 A := by
  refine met_of (own := RX10) (by decide) rfl (Nat.le_of_ble_eq_true rfl) ?_
  intro Γ E hQ hL hR hA hent hini
  have hAA : ∀ q, A q → jA Γ q := fun q h => by rw [hA]; exact h
  have hroom : ∀ (d mL : Nat) {mc ms : Nat}, d < 2 → mL ≤ 21 → (rmL d mc ms).frames + 1 ≤ (jR Γ).frames ∧ 8 + (mL + 11) + (rmL d mc ms).locals ≤ (jR Γ).locals := fun d mL mc ms h1 h2 => by rw [hR]; exact rmL_le h1 h2
  show J Γ 2 (HS κ A s0) 0 0 0 [(0, .ref a0), (1, .int p1)] []
  unfold f10_isBare at hF
  refine j_blk (pc' := 2) (lv' := [(0, .ref a0), (1, .int p1)]) (st' := [.int p1, .ref a0]) E b_c10_isBare_0_2 rfl ?_
  replace hF := ocl_at hF
  obtain ⟨hc, hF⟩ := hF
  replace hF := obd_at hF
  obtain ⟨v2, he1, hF⟩ := hF
  refine j_callv [.int p1] [] E w_RX10_107 (hroom 1 2 (by decide) (by decide)) hAA (c10_personOn _ κ A _ _ _  he1) (fun _ h => h) (fun _ _ _ h _ _ => h) (fun _ h => j_recv E h hc rfl) rfl rfl (Nat.le_of_ble_eq_true rfl) d_c10_isBare_2 ⟨Nat.zero_le _, Nat.zero_le _⟩ ?_
  replace hF := onl_at hF
  rcases hF with ⟨rfl, hF⟩ | ⟨b3, rfl, hF⟩
  · refine j_nonnull_n E d_c10_isBare_5 ?_
    refine j_blk (pc' := 10) (lv' := [(0, .ref a0), (1, .int p1)]) (st' := [.int p1, .ref a0]) E b_c10_isBare_8_2 rfl ?_
    replace hF := ocl_at hF
    obtain ⟨hc, hF⟩ := hF
    replace hF := obd_at hF
    obtain ⟨v5, he4, hF⟩ := hF
    refine j_callv [.int p1] [] E w_RX10_217 (hroom 1 2 (by decide) (by decide)) hAA (c10_rowOn _ κ A _ _ _  he4) (fun _ h => h) (fun _ _ _ h _ _ => h) (fun _ h => j_recv E h hc rfl) rfl rfl (Nat.le_of_ble_eq_true rfl) d_c10_isBare_10 ⟨Nat.zero_le _, Nat.zero_le _⟩ ?_
    replace hF := onl_at hF
    rcases hF with ⟨rfl, hF⟩ | ⟨b6, rfl, hF⟩
    · refine j_nonnull_n E d_c10_isBare_13 ?_
      refine j_blk (pc' := 17) (lv' := [(0, .ref a0), (1, .int p1)]) (st' := [.int (Int32.ofInt 1)]) E b_c10_isBare_16_1 rfl ?_
      refine j_goto (tgt := 21) E d_c10_isBare_17 (by decide) ?_
      have e : res = Int32.ofInt 1 := g_inj hF
      subst e
      exact j_zret E hQ nb_1 d_c10_isBare_21 (fun _ h => h)
    · refine j_nonnull_y (tgt := 20) E d_c10_isBare_13 (by decide) ?_
      refine j_blk (pc' := 21) (lv' := [(0, .ref a0), (1, .int p1)]) (st' := [.int (Int32.ofInt 0)]) E b_c10_isBare_20_1 rfl ?_
      have e : res = Int32.ofInt 0 := g_inj hF
      subst e
      exact j_zret E hQ nb_0 d_c10_isBare_21 (fun _ h => h)
  · refine j_nonnull_y (tgt := 20) E d_c10_isBare_5 (by decide) ?_
    refine j_blk (pc' := 21) (lv' := [(0, .ref a0), (1, .int p1)]) (st' := [.int (Int32.ofInt 0)]) E b_c10_isBare_20_1 rfl ?_
    have e : res = Int32.ofInt 0 := g_inj hF
    subst e
    exact j_zret E hQ nb_0 d_c10_isBare_21 (fun _ h => h)
theorem b_c10_bytesOn_0_2 : bdec cX10_bytesOn 0 [.aload_n 0, .iload_n 1] = true := by decide +kernel
theorem d_c10_bytesOn_2 : decode cX10_bytesOn 2 = .ok (.invokevirtual 217, 3) := by decide +kernel
theorem b_c10_bytesOn_5_2 : bdec cX10_bytesOn 5 [.astore_n 2, .aload_n 2] = true := by decide +kernel
theorem d_c10_bytesOn_7 : decode cX10_bytesOn 7 = .ok (.ifnull 14, 3) := by decide +kernel
theorem b_c10_bytesOn_21_1 : bdec cX10_bytesOn 21 [.aconst_null] = true := by decide +kernel
theorem d_c10_bytesOn_22 : decode cX10_bytesOn 22 = .ok (.areturn, 1) := by decide +kernel
theorem b_c10_bytesOn_10_1 : bdec cX10_bytesOn 10 [.aload_n 2] = true := by decide +kernel
theorem d_c10_bytesOn_11 : decode cX10_bytesOn 11 = .ok (.getfield 250, 3) := by decide +kernel
theorem d_c10_bytesOn_14 : decode cX10_bytesOn 14 = .ok (.ifCond .ne 7, 3) := by decide +kernel
theorem b_c10_bytesOn_17_1 : bdec cX10_bytesOn 17 [.aload_n 2] = true := by decide +kernel
theorem d_c10_bytesOn_18 : decode cX10_bytesOn 18 = .ok (.goto 4, 3) := by decide +kernel
def f10_bytesOn (s0 : HM) (a0 : Nat) (p1 : Int32) : Option (Value) := ocl s0 a0 10 (obd (f10_rowOn s0 a0 p1) (fun v2 => onl v2 (some (.null : Value)) (fun b3 => obd (hfi s0 [8] 0 b3) (fun v4 => if v4 = 0 then (some (.ref b3 : Value)) else (some (.null : Value))))))
set_option maxRecDepth 100000 in
set_option maxHeartbeats 4000000 in
theorem c10_bytesOn (l : Launch) (κ : KP) (A : Nat → Prop) (s0 : HM) (a0 : Nat) (p1 : Int32) {res : Value} (hF : f10_bytesOn s0 a0 p1 = some res) : Met l yX10_bytesOn (Cond.code yX10_bytesOn cX10_bytesOn 3 (some (.object "OneBeatsBoth$Row")) :: WT) (rmL 2 0 0) (PP κ A [.ref a0, .int p1] (HS κ A s0)) (QQ (some res) (HS κ A s0) A) 0 0 A := by
  refine met_of (own := RX10) (by decide) rfl (Nat.le_of_ble_eq_true rfl) ?_
  intro Γ E hQ hL hR hA hent hini
  have hAA : ∀ q, A q → jA Γ q := fun q h => by rw [hA]; exact h
  have hroom : ∀ (d mL : Nat) {mc ms : Nat}, d < 2 → mL ≤ 21 → (rmL d mc ms).frames + 1 ≤ (jR Γ).frames ∧ 8 + (mL + 11) + (rmL d mc ms).locals ≤ (jR Γ).locals := fun d mL mc ms h1 h2 => by rw [hR]; exact rmL_le h1 h2
  show J Γ 3 (HS κ A s0) 0 0 0 [(0, .ref a0), (1, .int p1)] []
  unfold f10_bytesOn at hF
  refine j_blk (pc' := 2) (lv' := [(0, .ref a0), (1, .int p1)]) (st' := [.int p1, .ref a0]) E b_c10_bytesOn_0_2 rfl ?_
  replace hF := ocl_at hF
  obtain ⟨hc, hF⟩ := hF
  replace hF := obd_at hF
  obtain ⟨v2, he1, hF⟩ := hF
  refine j_callv [.int p1] [] E w_RX10_217 (hroom 1 2 (by decide) (by decide)) hAA (c10_rowOn _ κ A _ _ _  he1) (fun _ h => h) (fun _ _ _ h _ _ => h) (fun _ h => j_recv E h hc rfl) rfl rfl (Nat.le_of_ble_eq_true rfl) d_c10_bytesOn_2 ⟨Nat.zero_le _, Nat.zero_le _⟩ ?_
  replace hF := onl_at hF
  rcases hF with ⟨rfl, hF⟩ | ⟨b3, rfl, hF⟩
  · skip
    refine j_blk (pc' := 7) (lv' := [(2, .null), (0, .ref a0), (1, .int p1)]) (st' := [.null]) E b_c10_bytesOn_5_2 rfl ?_
    refine j_null_y (tgt := 21) E d_c10_bytesOn_7 (by decide) ?_
    refine j_blk (pc' := 22) (lv' := [(2, .null), (0, .ref a0), (1, .int p1)]) (st' := [.null]) E b_c10_bytesOn_21_1 rfl ?_
    have e : res = (.null : Value) := g_inj hF
    subst e
    exact j_aret E hQ (Or.inl ⟨_, rfl⟩) (Or.inl rfl) d_c10_bytesOn_22 (fun _ h => h)
  · skip
    refine j_blk (pc' := 7) (lv' := [(2, .ref b3), (0, .ref a0), (1, .int p1)]) (st' := [.ref b3]) E b_c10_bytesOn_5_2 rfl ?_
    refine j_null_n E d_c10_bytesOn_7 ?_
    refine j_blk (pc' := 11) (lv' := [(2, .ref b3), (0, .ref a0), (1, .int p1)]) (st' := [.ref b3]) E b_c10_bytesOn_10_1 rfl ?_
    replace hF := obd_at hF
    obtain ⟨v4, ev4, hF⟩ := hF
    refine j_getI E fg_RX10_250 d_c10_bytesOn_11 ev4 ?_
    refine j_if_ne (tgt := 21) E d_c10_bytesOn_14 (by decide) (fun h5 => ?_) (fun h5 => ?_)
    · replace hF := g_f hF h5
      refine j_blk (pc' := 22) (lv' := [(2, .ref b3), (0, .ref a0), (1, .int p1)]) (st' := [.null]) E b_c10_bytesOn_21_1 rfl ?_
      have e : res = (.null : Value) := g_inj hF
      subst e
      exact j_aret E hQ (Or.inl ⟨_, rfl⟩) (Or.inl rfl) d_c10_bytesOn_22 (fun _ h => h)
    · replace hF := g_t hF h5
      refine j_blk (pc' := 18) (lv' := [(2, .ref b3), (0, .ref a0), (1, .int p1)]) (st' := [.ref b3]) E b_c10_bytesOn_17_1 rfl ?_
      refine j_goto (tgt := 22) E d_c10_bytesOn_18 (by decide) ?_
      have e : res = (.ref b3 : Value) := g_inj hF
      subst e
      exact j_aret E hQ (Or.inl ⟨_, rfl⟩) (Or.inr ⟨_, rfl⟩) d_c10_bytesOn_22 (fun _ h => h)
theorem b_c10_brokenPlace_0_2 : bdec cX10_brokenPlace 0 [.iconst 0, .istore_n 1] = true := by decide +kernel
theorem b_c10_brokenPlace_2_1 : bdec cX10_brokenPlace 2 [.iload_n 1] = true := by decide +kernel
theorem d_c10_brokenPlace_3 : decode cX10_brokenPlace 3 = .ok (.ifCond .eq 11, 3) := by decide +kernel
theorem b_c10_brokenPlace_14_2 : bdec cX10_brokenPlace 14 [.aload_n 0, .iload_n 1] = true := by decide +kernel
theorem d_c10_brokenPlace_16 : decode cX10_brokenPlace 16 = .ok (.invokevirtual 71, 3) := by decide +kernel
theorem d_c10_brokenPlace_19 : decode cX10_brokenPlace 19 = .ok (.invokestatic 78, 3) := by decide +kernel
theorem b_c10_brokenPlace_22_2 : bdec cX10_brokenPlace 22 [.istore_n 2, .iload_n 2] = true := by decide +kernel
theorem d_c10_brokenPlace_24 : decode cX10_brokenPlace 24 = .ok (.ifCond .ge 5, 3) := by decide +kernel
theorem b_c10_brokenPlace_29_10 : bdec cX10_brokenPlace 29 [.iload_n 1, .iload_n 2, .iadd, .iconst 1, .iadd, .istore_n 3, .iload_n 1, .iconst 1, .iadd, .istore 4] = true := by decide +kernel
theorem b_c10_brokenPlace_40_2 : bdec cX10_brokenPlace 40 [.iload 4, .iload_n 3] = true := by decide +kernel
theorem d_c10_brokenPlace_43 : decode cX10_brokenPlace 43 = .ok (.if_icmp .ge 34, 3) := by decide +kernel
theorem b_c10_brokenPlace_46_2 : bdec cX10_brokenPlace 46 [.aload_n 0, .iload 4] = true := by decide +kernel
theorem d_c10_brokenPlace_49 : decode cX10_brokenPlace 49 = .ok (.invokevirtual 71, 3) := by decide +kernel
theorem b_c10_brokenPlace_52_1 : bdec cX10_brokenPlace 52 [.bipush 48] = true := by decide +kernel
theorem d_c10_brokenPlace_54 : decode cX10_brokenPlace 54 = .ok (.if_icmp .lt 14, 3) := by decide +kernel
theorem b_c10_brokenPlace_68_1 : bdec cX10_brokenPlace 68 [.iload 4] = true := by decide +kernel
theorem d_c10_brokenPlace_70 : decode cX10_brokenPlace 70 = .ok (.ireturn, 1) := by decide +kernel
theorem b_c10_brokenPlace_57_2 : bdec cX10_brokenPlace 57 [.aload_n 0, .iload 4] = true := by decide +kernel
theorem d_c10_brokenPlace_60 : decode cX10_brokenPlace 60 = .ok (.invokevirtual 71, 3) := by decide +kernel
theorem b_c10_brokenPlace_63_1 : bdec cX10_brokenPlace 63 [.bipush 57] = true := by decide +kernel
theorem d_c10_brokenPlace_65 : decode cX10_brokenPlace 65 = .ok (.if_icmp .le 6, 3) := by decide +kernel
theorem b_c10_brokenPlace_71_1 : bdec cX10_brokenPlace 71 [.iinc 4 1] = true := by decide +kernel
theorem d_c10_brokenPlace_74 : decode cX10_brokenPlace 74 = .ok (.goto (-34), 3) := by decide +kernel
theorem b_c10_brokenPlace_77_2 : bdec cX10_brokenPlace 77 [.aload_n 0, .iload_n 3] = true := by decide +kernel
theorem d_c10_brokenPlace_79 : decode cX10_brokenPlace 79 = .ok (.invokevirtual 71, 3) := by decide +kernel
theorem b_c10_brokenPlace_82_1 : bdec cX10_brokenPlace 82 [.bipush 59] = true := by decide +kernel
theorem d_c10_brokenPlace_84 : decode cX10_brokenPlace 84 = .ok (.if_icmp .eq 5, 3) := by decide +kernel
theorem b_c10_brokenPlace_89_3 : bdec cX10_brokenPlace 89 [.iload_n 1, .aload_n 0, .iload_n 1] = true := by decide +kernel
theorem d_c10_brokenPlace_92 : decode cX10_brokenPlace 92 = .ok (.invokevirtual 71, 3) := by decide +kernel
theorem d_c10_brokenPlace_95 : decode cX10_brokenPlace 95 = .ok (.invokestatic 78, 3) := by decide +kernel
theorem b_c10_brokenPlace_98_4 : bdec cX10_brokenPlace 98 [.iconst 2, .iadd, .iadd, .istore_n 1] = true := by decide +kernel
theorem d_c10_brokenPlace_102 : decode cX10_brokenPlace 102 = .ok (.goto (-100), 3) := by decide +kernel
theorem b_c10_brokenPlace_87_1 : bdec cX10_brokenPlace 87 [.iload_n 3] = true := by decide +kernel
theorem d_c10_brokenPlace_88 : decode cX10_brokenPlace 88 = .ok (.ireturn, 1) := by decide +kernel
theorem b_c10_brokenPlace_27_1 : bdec cX10_brokenPlace 27 [.iload_n 1] = true := by decide +kernel
theorem d_c10_brokenPlace_28 : decode cX10_brokenPlace 28 = .ok (.ireturn, 1) := by decide +kernel
theorem b_c10_brokenPlace_6_2 : bdec cX10_brokenPlace 6 [.iload_n 1, .aload_n 0] = true := by decide +kernel
theorem d_c10_brokenPlace_8 : decode cX10_brokenPlace 8 = .ok (.invokevirtual 67, 3) := by decide +kernel
theorem d_c10_brokenPlace_11 : decode cX10_brokenPlace 11 = .ok (.if_icmp .ge 94, 3) := by decide +kernel
theorem b_c10_brokenPlace_105_1 : bdec cX10_brokenPlace 105 [.iconst (-1)] = true := by decide +kernel
theorem d_c10_brokenPlace_106 : decode cX10_brokenPlace 106 = .ok (.ireturn, 1) := by decide +kernel
def f10_brokenPlace_L40 (s0 : HM) (p0 : Nat) (x2_1 : Int32) (c40_3 : Int32) (w : Int32) : Option ((Int32) ⊕ ((Int32) ⊕ (Unit))) := match w with
  | x40_4 => if c40_3 ≤ x40_4 then (some (.inr (.inr ()))) else (ocl s0 p0 8 (obd (f8_at s0 p0 x40_4) (fun v10 => if v10 < ((Int8.ofInt 48).toInt32) then (some (.inr (.inl x40_4))) else (ocl s0 p0 8 (obd (f8_at s0 p0 x40_4) (fun v13 => if v13 ≤ ((Int8.ofInt 57).toInt32) then (some (.inl (x40_4 + Int32.ofInt 1))) else (some (.inr (.inl x40_4)))))))))
def f10_brokenPlace_K14 (s0 : HM) (p0 : Nat) (x2_1 : Int32) : Option ((Int32) ⊕ ((Int32) ⊕ (Unit))) := ocl s0 p0 8 (obd (f8_at s0 p0 x2_1) (fun v3 => obd (f10_digitsBehind v3) (fun v5 => if 0 ≤ v5 then (obd (iter (f10_brokenPlace_L40 s0 p0 x2_1 ((x2_1 + v5) + (Int32.ofInt 1))) FU (x2_1 + (Int32.ofInt 1))) (fun o7 => osm o7 (fun o7 => some (.inr (.inl o7))) (fun o7 => ocl s0 p0 8 (obd (f8_at s0 p0 ((x2_1 + v5) + (Int32.ofInt 1))) (fun v16 => if v16 = ((Int8.ofInt 59).toInt32) then (ocl s0 p0 8 (obd (f8_at s0 p0 x2_1) (fun v19 => obd (f10_digitsBehind v19) (fun v21 => some (.inl (x2_1 + (v21 + (Int32.ofInt 2)))))))) else (some (.inr (.inl ((x2_1 + v5) + (Int32.ofInt 1)))))))))) else (some (.inr (.inl x2_1))))))
def f10_brokenPlace_L2 (s0 : HM) (p0 : Nat) (w : Int32) : Option ((Int32) ⊕ ((Int32) ⊕ (Unit))) := match w with
  | x2_1 => if x2_1 = 0 then (f10_brokenPlace_K14 s0 p0 x2_1) else (ocl s0 p0 8 (obd (f8_size s0 p0) (fun v24 => if v24 ≤ x2_1 then (some (.inr (.inr ()))) else (f10_brokenPlace_K14 s0 p0 x2_1))))
def f10_brokenPlace (s0 : HM) (p0 : Nat) : Option (Int32) := obd (iter (f10_brokenPlace_L2 s0 p0) FU (Int32.ofInt 0)) (fun o1 => osm o1 (fun o1 => some o1) (fun o1 => some (Int32.ofInt (-1))))
set_option maxRecDepth 100000 in
set_option maxHeartbeats 4000000 in
theorem c10_brokenPlace (l : Launch) (κ : KP) (A : Nat → Prop) (s0 : HM) (p0 : Nat) {res : Int32} (hF : f10_brokenPlace s0 p0 = some res) : Met l yX10_brokenPlace (Cond.code yX10_brokenPlace cX10_brokenPlace 5 (some .int) :: WT) (rmL 2 0 0) (PP κ A [.ref p0] (HS κ A s0)) (QQ (some (.int res)) (HS κ A s0) A) 0 0 A := by
  refine met_of (own := RX10) (by decide) rfl (Nat.le_of_ble_eq_true rfl) ?_
  intro Γ E hQ hL hR hA hent hini
  have hAA : ∀ q, A q → jA Γ q := fun q h => by rw [hA]; exact h
  have hroom : ∀ (d mL : Nat) {mc ms : Nat}, d < 2 → mL ≤ 21 → (rmL d mc ms).frames + 1 ≤ (jR Γ).frames ∧ 8 + (mL + 11) + (rmL d mc ms).locals ≤ (jR Γ).locals := fun d mL mc ms h1 h2 => by rw [hR]; exact rmL_le h1 h2
  show J Γ 5 (HS κ A s0) 0 0 0 [(0, .ref p0)] []
  unfold f10_brokenPlace at hF
  refine j_blk (pc' := 2) (lv' := [(1, .int (Int32.ofInt 0)), (0, .ref p0)]) (st' := []) E b_c10_brokenPlace_0_2 rfl ?_
  refine j_lv [1, 0] rfl ?_
  replace hF := obd_at hF
  obtain ⟨o1, ho1, hF⟩ := hF
  have lpo1 : ∀ (fu : Nat) (w : Int32) (o : (Int32) ⊕ (Unit)), iter (f10_brokenPlace_L2 s0 p0) fu w = some o → (fun (o : (Int32) ⊕ (Unit)) => match o with | .inl r => r = res | .inr o => J Γ 5 (HS κ A s0) 0 0 105 [] []) o → (fun (w : Int32) => J Γ 5 (HS κ A s0) 0 0 2 [(0, .ref p0), (1, .int w)] []) w := by
    refine j_iter (P := fun (w : Int32) => J Γ 5 (HS κ A s0) 0 0 2 [(0, .ref p0), (1, .int w)] []) (G := fun (o : (Int32) ⊕ (Unit)) => match o with | .inl r => r = res | .inr o => J Γ 5 (HS κ A s0) 0 0 105 [] []) ?_
    intro x2_1 q hF hI hO
    show J Γ 5 (HS κ A s0) 0 0 2 [(0, .ref p0), (1, .int x2_1)] []
    unfold f10_brokenPlace_L2 at hF
    refine j_blk (pc' := 3) (lv' := [(0, .ref p0), (1, .int x2_1)]) (st' := [.int x2_1]) E b_c10_brokenPlace_2_1 rfl ?_
    have kp14 : f10_brokenPlace_K14 s0 p0 x2_1 = some q → J Γ 5 (HS κ A s0) 0 0 14 [(0, .ref p0), (1, .int x2_1)] [] := by
      intro hF
      unfold f10_brokenPlace_K14 at hF
      refine j_blk (pc' := 16) (lv' := [(0, .ref p0), (1, .int x2_1)]) (st' := [.int x2_1, .ref p0]) E b_c10_brokenPlace_14_2 rfl ?_
      replace hF := ocl_at hF
      obtain ⟨hc, hF⟩ := hF
      replace hF := obd_at hF
      obtain ⟨v3, he2, hF⟩ := hF
      refine j_callv [.int x2_1] [] E w_RX10_71 (hroom 1 2 (by decide) (by decide)) hAA (c8_at _ κ A _ _ _  he2) (fun _ h => h) (fun _ _ _ h _ _ => h) (fun _ h => j_recv E h hc rfl) rfl rfl (Nat.le_of_ble_eq_true rfl) d_c10_brokenPlace_16 ⟨Nat.zero_le _, Nat.zero_le _⟩ ?_
      replace hF := obd_at hF
      obtain ⟨v5, he4, hF⟩ := hF
      refine j_calls [.int v3] [] E w_RX10_78 (hroom 0 1 (by decide) (by decide)) hAA (c10_digitsBehind _ κ A (HS κ A s0) _  he4) (fun _ h => h) (fun _ _ _ h _ _ => h) rfl rfl (Nat.le_of_ble_eq_true rfl) d_c10_brokenPlace_19 ⟨Nat.zero_le _, Nat.zero_le _⟩ ?_
      refine j_blk (pc' := 24) (lv' := [(2, .int v5), (0, .ref p0), (1, .int x2_1)]) (st' := [.int v5]) E b_c10_brokenPlace_22_2 rfl ?_
      refine j_if_ge (tgt := 29) E d_c10_brokenPlace_24 (by decide) (fun h6 => ?_) (fun h6 => ?_)
      · replace hF := g_t hF h6
        refine j_blk (pc' := 40) (lv' := [(4, .int (x2_1 + (Int32.ofInt 1))), (3, .int ((x2_1 + v5) + (Int32.ofInt 1))), (2, .int v5), (0, .ref p0), (1, .int x2_1)]) (st' := []) E b_c10_brokenPlace_29_10 rfl ?_
        refine j_lv [3, 4, 1, 0] rfl ?_
        replace hF := obd_at hF
        obtain ⟨o7, ho7, hF⟩ := hF
        have lpo7 : ∀ (c40_3 : Int32), ∀ (fu : Nat) (w : Int32) (o : (Int32) ⊕ (Unit)), iter (f10_brokenPlace_L40 s0 p0 x2_1 c40_3) fu w = some o → (fun (o : (Int32) ⊕ (Unit)) => match o with | .inl r => r = res | .inr o => J Γ 5 (HS κ A s0) 0 0 77 [(0, .ref p0), (1, .int x2_1), (3, .int c40_3)] []) o → (fun (w : Int32) => J Γ 5 (HS κ A s0) 0 0 40 [(0, .ref p0), (1, .int x2_1), (3, .int c40_3), (4, .int w)] []) w := by
          intro c40_3
          refine j_iter (P := fun (w : Int32) => J Γ 5 (HS κ A s0) 0 0 40 [(0, .ref p0), (1, .int x2_1), (3, .int c40_3), (4, .int w)] []) (G := fun (o : (Int32) ⊕ (Unit)) => match o with | .inl r => r = res | .inr o => J Γ 5 (HS κ A s0) 0 0 77 [(0, .ref p0), (1, .int x2_1), (3, .int c40_3)] []) ?_
          intro x40_4 q hF hI hO
          show J Γ 5 (HS κ A s0) 0 0 40 [(0, .ref p0), (1, .int x2_1), (3, .int c40_3), (4, .int x40_4)] []
          unfold f10_brokenPlace_L40 at hF
          refine j_blk (pc' := 43) (lv' := [(0, .ref p0), (1, .int x2_1), (3, .int c40_3), (4, .int x40_4)]) (st' := [.int c40_3, .int x40_4]) E b_c10_brokenPlace_40_2 rfl ?_
          refine j_icmp_ge (tgt := 77) E d_c10_brokenPlace_43 (by decide) (fun h8 => ?_) (fun h8 => ?_)
          · replace hF := g_t hF h8
            refine j_lv [0, 1, 2] rfl ?_
            exact hO _ (g_inj hF)
          · replace hF := g_f hF h8
            refine j_blk (pc' := 49) (lv' := [(0, .ref p0), (1, .int x2_1), (3, .int c40_3), (4, .int x40_4)]) (st' := [.int x40_4, .ref p0]) E b_c10_brokenPlace_46_2 rfl ?_
            replace hF := ocl_at hF
            obtain ⟨hc, hF⟩ := hF
            replace hF := obd_at hF
            obtain ⟨v10, he9, hF⟩ := hF
            refine j_callv [.int x40_4] [] E w_RX10_71 (hroom 1 2 (by decide) (by decide)) hAA (c8_at _ κ A _ _ _  he9) (fun _ h => h) (fun _ _ _ h _ _ => h) (fun _ h => j_recv E h hc rfl) rfl rfl (Nat.le_of_ble_eq_true rfl) d_c10_brokenPlace_49 ⟨Nat.zero_le _, Nat.zero_le _⟩ ?_
            refine j_blk (pc' := 54) (lv' := [(0, .ref p0), (1, .int x2_1), (3, .int c40_3), (4, .int x40_4)]) (st' := [.int ((Int8.ofInt 48).toInt32), .int v10]) E b_c10_brokenPlace_52_1 rfl ?_
            refine j_icmp_lt (tgt := 68) E d_c10_brokenPlace_54 (by decide) (fun h11 => ?_) (fun h11 => ?_)
            · replace hF := g_t hF h11
              refine j_blk (pc' := 70) (lv' := [(0, .ref p0), (1, .int x2_1), (3, .int c40_3), (4, .int x40_4)]) (st' := [.int x40_4]) E b_c10_brokenPlace_68_1 rfl ?_
              have e : x40_4 = res := hO _ (g_inj hF)
              subst e
              exact j_iret E hQ d_c10_brokenPlace_70 (fun _ h => h)
            · replace hF := g_f hF h11
              refine j_blk (pc' := 60) (lv' := [(0, .ref p0), (1, .int x2_1), (3, .int c40_3), (4, .int x40_4)]) (st' := [.int x40_4, .ref p0]) E b_c10_brokenPlace_57_2 rfl ?_
              replace hF := ocl_at hF
              obtain ⟨hc, hF⟩ := hF
              replace hF := obd_at hF
              obtain ⟨v13, he12, hF⟩ := hF
              refine j_callv [.int x40_4] [] E w_RX10_71 (hroom 1 2 (by decide) (by decide)) hAA (c8_at _ κ A _ _ _  he12) (fun _ h => h) (fun _ _ _ h _ _ => h) (fun _ h => j_recv E h hc rfl) rfl rfl (Nat.le_of_ble_eq_true rfl) d_c10_brokenPlace_60 ⟨Nat.zero_le _, Nat.zero_le _⟩ ?_
              refine j_blk (pc' := 65) (lv' := [(0, .ref p0), (1, .int x2_1), (3, .int c40_3), (4, .int x40_4)]) (st' := [.int ((Int8.ofInt 57).toInt32), .int v13]) E b_c10_brokenPlace_63_1 rfl ?_
              refine j_icmp_le (tgt := 71) E d_c10_brokenPlace_65 (by decide) (fun h14 => ?_) (fun h14 => ?_)
              · replace hF := g_t hF h14
                refine j_blk (pc' := 74) (lv' := [(4, .int (x40_4 + Int32.ofInt 1)), (0, .ref p0), (1, .int x2_1), (3, .int c40_3)]) (st' := []) E b_c10_brokenPlace_71_1 rfl ?_
                refine j_goto (tgt := 40) E d_c10_brokenPlace_74 (by decide) ?_
                refine j_lv [1, 2, 3, 0] rfl ?_
                exact hI _ (g_inj hF)
              · replace hF := g_f hF h14
                refine j_blk (pc' := 70) (lv' := [(0, .ref p0), (1, .int x2_1), (3, .int c40_3), (4, .int x40_4)]) (st' := [.int x40_4]) E b_c10_brokenPlace_68_1 rfl ?_
                have e : x40_4 = res := hO _ (g_inj hF)
                subst e
                exact j_iret E hQ d_c10_brokenPlace_70 (fun _ h => h)
        refine lpo7 ((x2_1 + v5) + (Int32.ofInt 1)) FU (x2_1 + (Int32.ofInt 1)) o7 ho7 ?_
        rcases o7 with o7 | o7
        · exact hO _ (g_inj hF)
        · skip
          show J Γ 5 (HS κ A s0) 0 0 77 [(0, .ref p0), (1, .int x2_1), (3, .int ((x2_1 + v5) + (Int32.ofInt 1)))] []
          refine j_blk (pc' := 79) (lv' := [(0, .ref p0), (1, .int x2_1), (3, .int ((x2_1 + v5) + (Int32.ofInt 1)))]) (st' := [.int ((x2_1 + v5) + (Int32.ofInt 1)), .ref p0]) E b_c10_brokenPlace_77_2 rfl ?_
          replace hF := ocl_at hF
          obtain ⟨hc, hF⟩ := hF
          replace hF := obd_at hF
          obtain ⟨v16, he15, hF⟩ := hF
          refine j_callv [.int ((x2_1 + v5) + (Int32.ofInt 1))] [] E w_RX10_71 (hroom 1 2 (by decide) (by decide)) hAA (c8_at _ κ A _ _ _  he15) (fun _ h => h) (fun _ _ _ h _ _ => h) (fun _ h => j_recv E h hc rfl) rfl rfl (Nat.le_of_ble_eq_true rfl) d_c10_brokenPlace_79 ⟨Nat.zero_le _, Nat.zero_le _⟩ ?_
          refine j_blk (pc' := 84) (lv' := [(0, .ref p0), (1, .int x2_1), (3, .int ((x2_1 + v5) + (Int32.ofInt 1)))]) (st' := [.int ((Int8.ofInt 59).toInt32), .int v16]) E b_c10_brokenPlace_82_1 rfl ?_
          refine j_icmp_eq (tgt := 89) E d_c10_brokenPlace_84 (by decide) (fun h17 => ?_) (fun h17 => ?_)
          · replace hF := g_t hF h17
            refine j_blk (pc' := 92) (lv' := [(0, .ref p0), (1, .int x2_1), (3, .int ((x2_1 + v5) + (Int32.ofInt 1)))]) (st' := [.int x2_1, .ref p0, .int x2_1]) E b_c10_brokenPlace_89_3 rfl ?_
            replace hF := ocl_at hF
            obtain ⟨hc, hF⟩ := hF
            replace hF := obd_at hF
            obtain ⟨v19, he18, hF⟩ := hF
            refine j_callv [.int x2_1] [.int x2_1] E w_RX10_71 (hroom 1 2 (by decide) (by decide)) hAA (c8_at _ κ A _ _ _  he18) (fun _ h => h) (fun _ _ _ h _ _ => h) (fun _ h => j_recv E h hc rfl) rfl rfl (Nat.le_of_ble_eq_true rfl) d_c10_brokenPlace_92 ⟨Nat.zero_le _, Nat.zero_le _⟩ ?_
            replace hF := obd_at hF
            obtain ⟨v21, he20, hF⟩ := hF
            refine j_calls [.int v19] [.int x2_1] E w_RX10_78 (hroom 0 1 (by decide) (by decide)) hAA (c10_digitsBehind _ κ A (HS κ A s0) _  he20) (fun _ h => h) (fun _ _ _ h _ _ => h) rfl rfl (Nat.le_of_ble_eq_true rfl) d_c10_brokenPlace_95 ⟨Nat.zero_le _, Nat.zero_le _⟩ ?_
            refine j_blk (pc' := 102) (lv' := [(1, .int (x2_1 + (v21 + (Int32.ofInt 2)))), (0, .ref p0), (3, .int ((x2_1 + v5) + (Int32.ofInt 1)))]) (st' := []) E b_c10_brokenPlace_98_4 rfl ?_
            refine j_goto (tgt := 2) E d_c10_brokenPlace_102 (by decide) ?_
            refine j_lv [1, 0] rfl ?_
            exact hI _ (g_inj hF)
          · replace hF := g_f hF h17
            refine j_blk (pc' := 88) (lv' := [(0, .ref p0), (1, .int x2_1), (3, .int ((x2_1 + v5) + (Int32.ofInt 1)))]) (st' := [.int ((x2_1 + v5) + (Int32.ofInt 1))]) E b_c10_brokenPlace_87_1 rfl ?_
            have e : (x2_1 + v5) + (Int32.ofInt 1) = res := hO _ (g_inj hF)
            subst e
            exact j_iret E hQ d_c10_brokenPlace_88 (fun _ h => h)
      · replace hF := g_f hF h6
        refine j_blk (pc' := 28) (lv' := [(2, .int v5), (0, .ref p0), (1, .int x2_1)]) (st' := [.int x2_1]) E b_c10_brokenPlace_27_1 rfl ?_
        have e : x2_1 = res := hO _ (g_inj hF)
        subst e
        exact j_iret E hQ d_c10_brokenPlace_28 (fun _ h => h)
    refine j_if_eq (tgt := 14) E d_c10_brokenPlace_3 (by decide) (fun h22 => ?_) (fun h22 => ?_)
    · replace hF := g_t hF h22
      exact kp14 hF
    · replace hF := g_f hF h22
      refine j_blk (pc' := 8) (lv' := [(0, .ref p0), (1, .int x2_1)]) (st' := [.ref p0, .int x2_1]) E b_c10_brokenPlace_6_2 rfl ?_
      replace hF := ocl_at hF
      obtain ⟨hc, hF⟩ := hF
      replace hF := obd_at hF
      obtain ⟨v24, he23, hF⟩ := hF
      refine j_callv [] [.int x2_1] E w_RX10_67 (hroom 0 1 (by decide) (by decide)) hAA (c8_size _ κ A _ _  he23) (fun _ h => h) (fun _ _ _ h _ _ => h) (fun _ h => j_recv E h hc rfl) rfl rfl (Nat.le_of_ble_eq_true rfl) d_c10_brokenPlace_8 ⟨Nat.zero_le _, Nat.zero_le _⟩ ?_
      refine j_icmp_ge (tgt := 105) E d_c10_brokenPlace_11 (by decide) (fun h25 => ?_) (fun h25 => ?_)
      · replace hF := g_t hF h25
        refine j_lv [] rfl ?_
        exact hO _ (g_inj hF)
      · replace hF := g_f hF h25
        exact kp14 hF
  refine lpo1 FU (Int32.ofInt 0) o1 ho1 ?_
  rcases o1 with o1 | o1
  · exact (g_inj hF).symm
  · skip
    show J Γ 5 (HS κ A s0) 0 0 105 [] []
    refine j_blk (pc' := 106) (lv' := []) (st' := [.int (Int32.ofInt (-1))]) E b_c10_brokenPlace_105_1 rfl ?_
    have e : res = Int32.ofInt (-1) := g_inj hF
    subst e
    exact j_iret E hQ d_c10_brokenPlace_106 (fun _ h => h)
theorem b_c10_one_0_1 : bdec cX10_one 0 [.aload_n 0] = true := by decide +kernel
theorem d_c10_one_1 : decode cX10_one 1 = .ok (.getfield 23, 3) := by decide +kernel
theorem b_c10_one_4_1 : bdec cX10_one 4 [.iload_n 1] = true := by decide +kernel
theorem d_c10_one_5 : decode cX10_one 5 = .ok (.invokevirtual 81, 3) := by decide +kernel
theorem d_c10_one_8 : decode cX10_one 8 = .ok (.ifCond .ne 5, 3) := by decide +kernel
theorem b_c10_one_13_1 : bdec cX10_one 13 [.aload_n 0] = true := by decide +kernel
theorem d_c10_one_14 : decode cX10_one 14 = .ok (.getfield 23, 3) := by decide +kernel
theorem d_c10_one_17 : decode cX10_one 17 = .ok (.getfield 85, 3) := by decide +kernel
theorem b_c10_one_20_1 : bdec cX10_one 20 [.iload_n 1] = true := by decide +kernel
theorem d_c10_one_21 : decode cX10_one 21 = .ok (.aaload, 1) := by decide +kernel
theorem b_c10_one_22_2 : bdec cX10_one 22 [.astore_n 3, .iload_n 2] = true := by decide +kernel
theorem d_c10_one_24 : decode cX10_one 24 = .ok (.tableswitch 82 0 5 #[40, 45, 50, 55, 65, 77], 40) := by decide +kernel
theorem b_c10_one_64_1 : bdec cX10_one 64 [.aload_n 3] = true := by decide +kernel
theorem d_c10_one_65 : decode cX10_one 65 = .ok (.invokevirtual 88, 3) := by decide +kernel
theorem b_c10_one_69_1 : bdec cX10_one 69 [.aload_n 3] = true := by decide +kernel
theorem b_c10_one_74_1 : bdec cX10_one 74 [.aload_n 3] = true := by decide +kernel
theorem d_c10_one_75 : decode cX10_one 75 = .ok (.invokevirtual 95, 3) := by decide +kernel
theorem b_c10_one_79_1 : bdec cX10_one 79 [.aload_n 0] = true := by decide +kernel
theorem d_c10_one_80 : decode cX10_one 80 = .ok (.getfield 23, 3) := by decide +kernel
theorem d_c10_one_83 : decode cX10_one 83 = .ok (.getfield 98, 3) := by decide +kernel
theorem b_c10_one_86_1 : bdec cX10_one 86 [.iload_n 1] = true := by decide +kernel
theorem d_c10_one_87 : decode cX10_one 87 = .ok (.iaload, 1) := by decide +kernel
theorem d_c10_one_88 : decode cX10_one 88 = .ok (.ireturn, 1) := by decide +kernel
theorem b_c10_one_89_1 : bdec cX10_one 89 [.aload_n 0] = true := by decide +kernel
theorem d_c10_one_90 : decode cX10_one 90 = .ok (.getfield 23, 3) := by decide +kernel
theorem d_c10_one_93 : decode cX10_one 93 = .ok (.invokevirtual 101, 3) := by decide +kernel
theorem b_c10_one_96_4 : bdec cX10_one 96 [.iload_n 1, .ishr, .iconst 1, .iand] = true := by decide +kernel
theorem d_c10_one_100 : decode cX10_one 100 = .ok (.ireturn, 1) := by decide +kernel
theorem b_c10_one_101_1 : bdec cX10_one 101 [.aload_n 3] = true := by decide +kernel
theorem d_c10_one_102 : decode cX10_one 102 = .ok (.invokevirtual 104, 3) := by decide +kernel
theorem b_c10_one_106_1 : bdec cX10_one 106 [.iconst (-1)] = true := by decide +kernel
theorem d_c10_one_107 : decode cX10_one 107 = .ok (.ireturn, 1) := by decide +kernel
theorem d_c10_one_68 : decode cX10_one 68 = .ok (.ireturn, 1) := by decide +kernel
theorem d_c10_one_70 : decode cX10_one 70 = .ok (.getfield 91, 3) := by decide +kernel
theorem d_c10_one_73 : decode cX10_one 73 = .ok (.ireturn, 1) := by decide +kernel
theorem d_c10_one_78 : decode cX10_one 78 = .ok (.ireturn, 1) := by decide +kernel
theorem d_c10_one_105 : decode cX10_one 105 = .ok (.ireturn, 1) := by decide +kernel
theorem b_c10_one_11_1 : bdec cX10_one 11 [.iconst (-1)] = true := by decide +kernel
theorem d_c10_one_12 : decode cX10_one 12 = .ok (.ireturn, 1) := by decide +kernel
def f10_one (s0 : HM) (a0 : Nat) (p1 : Int32) (p2 : Int32) : Option (Int32) := obd (hfld s0 [10] 1 a0) (fun v1 => orf v1 (fun b2 => ocl s0 b2 2 (obd (f2_has s0 b2 p1) (fun v4 => if v4 = 0 then (some (Int32.ofInt (-1))) else (obd (hfld s0 [10] 1 a0) (fun v6 => orf v6 (fun b7 => obd (hfld s0 [2] 0 b7) (fun v8 => orf v8 (fun b9 => obd (hrld s0 b9 p1) (fun v10 => onl v10 (if p2 = 0 then (none) else (if p2 = 1 then (none) else (if p2 = 2 then (none) else (if p2 = 3 then (obd (hfld s0 [10] 1 a0) (fun v16 => orf v16 (fun b17 => obd (hfld s0 [2] 1 b17) (fun v18 => orf v18 (fun b19 => obd (hald s0 b19 p1) (fun v20 => some v20)))))) else (if p2 = 4 then (obd (hfld s0 [10] 1 a0) (fun v22 => orf v22 (fun b23 => ocl s0 b23 2 (obd (f2_counting s0 b23) (fun v25 => some ((v25 >>> (p1 &&& 31)) &&& (Int32.ofInt 1))))))) else (if p2 = 5 then (none) else (some (Int32.ofInt (-1))))))))) (fun b11 => if p2 = 0 then (obd (v_kind s0 b11) (fun v28 => some v28)) else (if p2 = 1 then (obd (hfi s0 sP 0 b11) (fun v30 => some v30)) else (if p2 = 2 then (obd (v_skill s0 b11) (fun v32 => some v32)) else (if p2 = 3 then (obd (hfld s0 [10] 1 a0) (fun v34 => orf v34 (fun b35 => obd (hfld s0 [2] 1 b35) (fun v36 => orf v36 (fun b37 => obd (hald s0 b37 p1) (fun v38 => some v38)))))) else (if p2 = 4 then (obd (hfld s0 [10] 1 a0) (fun v40 => orf v40 (fun b41 => ocl s0 b41 2 (obd (f2_counting s0 b41) (fun v43 => some ((v43 >>> (p1 &&& 31)) &&& (Int32.ofInt 1))))))) else (if p2 = 5 then (obd (v_cost s0 b11) (fun v45 => some v45)) else (some (Int32.ofInt (-1)))))))))))))))))))
set_option maxRecDepth 100000 in
set_option maxHeartbeats 4000000 in
theorem c10_one (l : Launch) (κ : KP) (A : Nat → Prop) (s0 : HM) (a0 : Nat) (p1 : Int32) (p2 : Int32) {res : Int32} (hF : f10_one s0 a0 p1 p2 = some res) : Met l yX10_one (Cond.code yX10_one cX10_one 4 (some .int) :: WT) (rmL 3 0 0) (PP κ A [.ref a0, .int p1, .int p2] (HS κ A s0)) (QQ (some (.int res)) (HS κ A s0) A) 0 0 A := by
  refine met_of (own := RX10) (by decide) rfl (Nat.le_of_ble_eq_true rfl) ?_
  intro Γ E hQ hL hR hA hent hini
  have hAA : ∀ q, A q → jA Γ q := fun q h => by rw [hA]; exact h
  have hroom : ∀ (d mL : Nat) {mc ms : Nat}, d < 3 → mL ≤ 21 → (rmL d mc ms).frames + 1 ≤ (jR Γ).frames ∧ 8 + (mL + 11) + (rmL d mc ms).locals ≤ (jR Γ).locals := fun d mL mc ms h1 h2 => by rw [hR]; exact rmL_le h1 h2
  show J Γ 4 (HS κ A s0) 0 0 0 [(0, .ref a0), (1, .int p1), (2, .int p2)] []
  unfold f10_one at hF
  refine j_blk (pc' := 1) (lv' := [(0, .ref a0), (1, .int p1), (2, .int p2)]) (st' := [.ref a0]) E b_c10_one_0_1 rfl ?_
  replace hF := obd_at hF
  obtain ⟨v1, ev1, hF⟩ := hF
  refine j_getf E fg_RX10_23 d_c10_one_1 ev1 ?_
  refine j_blk (pc' := 5) (lv' := [(0, .ref a0), (1, .int p1), (2, .int p2)]) (st' := [.int p1, v1]) E b_c10_one_4_1 rfl ?_
  replace hF := orf_at hF
  obtain ⟨b2, rfl, hF⟩ := hF
  replace hF := ocl_at hF
  obtain ⟨hc, hF⟩ := hF
  replace hF := obd_at hF
  obtain ⟨v4, he3, hF⟩ := hF
  refine j_callv [.int p1] [] E w_RX10_81 (hroom 0 2 (by decide) (by decide)) hAA (c2_has _ κ A _ _ _  he3) (fun _ h => h) (fun _ _ _ h _ _ => h) (fun _ h => j_recv E h hc rfl) rfl rfl (Nat.le_of_ble_eq_true rfl) d_c10_one_5 ⟨Nat.zero_le _, Nat.zero_le _⟩ ?_
  refine j_if_ne (tgt := 13) E d_c10_one_8 (by decide) (fun h5 => ?_) (fun h5 => ?_)
  · replace hF := g_f hF h5
    refine j_blk (pc' := 14) (lv' := [(0, .ref a0), (1, .int p1), (2, .int p2)]) (st' := [.ref a0]) E b_c10_one_13_1 rfl ?_
    replace hF := obd_at hF
    obtain ⟨v6, ev6, hF⟩ := hF
    refine j_getf E fg_RX10_23 d_c10_one_14 ev6 ?_
    replace hF := orf_at hF
    obtain ⟨b7, rfl, hF⟩ := hF
    replace hF := obd_at hF
    obtain ⟨v8, ev8, hF⟩ := hF
    refine j_getf E fg_RX10_85 d_c10_one_17 ev8 ?_
    refine j_blk (pc' := 21) (lv' := [(0, .ref a0), (1, .int p1), (2, .int p2)]) (st' := [.int p1, v8]) E b_c10_one_20_1 rfl ?_
    replace hF := orf_at hF
    obtain ⟨b9, rfl, hF⟩ := hF
    replace hF := obd_at hF
    obtain ⟨v10, ev10, hF⟩ := hF
    refine j_rald E d_c10_one_21 ev10 ?_
    replace hF := onl_at hF
    rcases hF with ⟨rfl, hF⟩ | ⟨b11, rfl, hF⟩
    · skip
      refine j_blk (pc' := 24) (lv' := [(3, .null), (0, .ref a0), (1, .int p1), (2, .int p2)]) (st' := [.int p2]) E b_c10_one_22_2 rfl ?_
      rcases Decidable.em (p2 = 0) with h12 | h12
      · replace hF := g_t hF h12
        refine j_tin (tgt := 64) (off := 40) E d_c10_one_24 h12 (by decide) (by decide) (by decide) (by decide) ?_
        refine j_blk (pc' := 65) (lv' := [(3, .null), (0, .ref a0), (1, .int p1), (2, .int p2)]) (st' := [.null]) E b_c10_one_64_1 rfl ?_
        cases hF
      · replace hF := g_f hF h12
        rcases Decidable.em (p2 = 1) with h13 | h13
        · replace hF := g_t hF h13
          refine j_tin (tgt := 69) (off := 45) E d_c10_one_24 h13 (by decide) (by decide) (by decide) (by decide) ?_
          refine j_blk (pc' := 70) (lv' := [(3, .null), (0, .ref a0), (1, .int p1), (2, .int p2)]) (st' := [.null]) E b_c10_one_69_1 rfl ?_
          cases hF
        · replace hF := g_f hF h13
          rcases Decidable.em (p2 = 2) with h14 | h14
          · replace hF := g_t hF h14
            refine j_tin (tgt := 74) (off := 50) E d_c10_one_24 h14 (by decide) (by decide) (by decide) (by decide) ?_
            refine j_blk (pc' := 75) (lv' := [(3, .null), (0, .ref a0), (1, .int p1), (2, .int p2)]) (st' := [.null]) E b_c10_one_74_1 rfl ?_
            cases hF
          · replace hF := g_f hF h14
            rcases Decidable.em (p2 = 3) with h15 | h15
            · replace hF := g_t hF h15
              refine j_tin (tgt := 79) (off := 55) E d_c10_one_24 h15 (by decide) (by decide) (by decide) (by decide) ?_
              refine j_blk (pc' := 80) (lv' := [(3, .null), (0, .ref a0), (1, .int p1), (2, .int p2)]) (st' := [.ref a0]) E b_c10_one_79_1 rfl ?_
              replace hF := obd_at hF
              obtain ⟨v16, ev16, hF⟩ := hF
              refine j_getf E fg_RX10_23 d_c10_one_80 ev16 ?_
              replace hF := orf_at hF
              obtain ⟨b17, rfl, hF⟩ := hF
              replace hF := obd_at hF
              obtain ⟨v18, ev18, hF⟩ := hF
              refine j_getf E fg_RX10_98 d_c10_one_83 ev18 ?_
              refine j_blk (pc' := 87) (lv' := [(3, .null), (0, .ref a0), (1, .int p1), (2, .int p2)]) (st' := [.int p1, v18]) E b_c10_one_86_1 rfl ?_
              replace hF := orf_at hF
              obtain ⟨b19, rfl, hF⟩ := hF
              replace hF := obd_at hF
              obtain ⟨v20, ev20, hF⟩ := hF
              refine j_iald E d_c10_one_87 ev20 ?_
              have e : res = v20 := g_inj hF
              subst e
              exact j_iret E hQ d_c10_one_88 (fun _ h => h)
            · replace hF := g_f hF h15
              rcases Decidable.em (p2 = 4) with h21 | h21
              · replace hF := g_t hF h21
                refine j_tin (tgt := 89) (off := 65) E d_c10_one_24 h21 (by decide) (by decide) (by decide) (by decide) ?_
                refine j_blk (pc' := 90) (lv' := [(3, .null), (0, .ref a0), (1, .int p1), (2, .int p2)]) (st' := [.ref a0]) E b_c10_one_89_1 rfl ?_
                replace hF := obd_at hF
                obtain ⟨v22, ev22, hF⟩ := hF
                refine j_getf E fg_RX10_23 d_c10_one_90 ev22 ?_
                replace hF := orf_at hF
                obtain ⟨b23, rfl, hF⟩ := hF
                replace hF := ocl_at hF
                obtain ⟨hc, hF⟩ := hF
                replace hF := obd_at hF
                obtain ⟨v25, he24, hF⟩ := hF
                refine j_callv [] [] E w_RX10_101 (hroom 2 3 (by decide) (by decide)) hAA (c2_counting _ κ A _ _  he24) (fun _ h => h) (fun _ _ _ h _ _ => h) (fun _ h => j_recv E h hc rfl) rfl rfl (Nat.le_of_ble_eq_true rfl) d_c10_one_93 ⟨Nat.zero_le _, Nat.zero_le _⟩ ?_
                refine j_blk (pc' := 100) (lv' := [(3, .null), (0, .ref a0), (1, .int p1), (2, .int p2)]) (st' := [.int ((v25 >>> (p1 &&& 31)) &&& (Int32.ofInt 1))]) E b_c10_one_96_4 rfl ?_
                have e : res = (v25 >>> (p1 &&& 31)) &&& (Int32.ofInt 1) := g_inj hF
                subst e
                exact j_iret E hQ d_c10_one_100 (fun _ h => h)
              · replace hF := g_f hF h21
                rcases Decidable.em (p2 = 5) with h26 | h26
                · replace hF := g_t hF h26
                  refine j_tin (tgt := 101) (off := 77) E d_c10_one_24 h26 (by decide) (by decide) (by decide) (by decide) ?_
                  refine j_blk (pc' := 102) (lv' := [(3, .null), (0, .ref a0), (1, .int p1), (2, .int p2)]) (st' := [.null]) E b_c10_one_101_1 rfl ?_
                  cases hF
                · replace hF := g_f hF h26
                  have h12 := lv_neT h12 (a := 0) (by decide)
                  have h13 := lv_neT h13 (a := 1) (by decide)
                  have h14 := lv_neT h14 (a := 2) (by decide)
                  have h15 := lv_neT h15 (a := 3) (by decide)
                  have h21 := lv_neT h21 (a := 4) (by decide)
                  have h26 := lv_neT h26 (a := 5) (by decide)
                  refine j_tout (tgt := 106) E d_c10_one_24 (by omega) (by decide) ?_
                  refine j_blk (pc' := 107) (lv' := [(3, .null), (0, .ref a0), (1, .int p1), (2, .int p2)]) (st' := [.int (Int32.ofInt (-1))]) E b_c10_one_106_1 rfl ?_
                  have e : res = Int32.ofInt (-1) := g_inj hF
                  subst e
                  exact j_iret E hQ d_c10_one_107 (fun _ h => h)
    · skip
      refine j_blk (pc' := 24) (lv' := [(3, .ref b11), (0, .ref a0), (1, .int p1), (2, .int p2)]) (st' := [.int p2]) E b_c10_one_22_2 rfl ?_
      rcases Decidable.em (p2 = 0) with h27 | h27
      · replace hF := g_t hF h27
        refine j_tin (tgt := 64) (off := 40) E d_c10_one_24 h27 (by decide) (by decide) (by decide) (by decide) ?_
        refine j_blk (pc' := 65) (lv' := [(3, .ref b11), (0, .ref a0), (1, .int p1), (2, .int p2)]) (st' := [.ref b11]) E b_c10_one_64_1 rfl ?_
        replace hF := obd_at hF
        obtain ⟨v28, ev28, hF⟩ := hF
        refine jv_RX10_88 E hR (by decide) hAA ev28 d_c10_one_65 (Nat.le_of_ble_eq_true rfl) ⟨Nat.zero_le _, Nat.zero_le _⟩ ?_
        have e : res = v28 := g_inj hF
        subst e
        exact j_iret E hQ d_c10_one_68 (fun _ h => h)
      · replace hF := g_f hF h27
        rcases Decidable.em (p2 = 1) with h29 | h29
        · replace hF := g_t hF h29
          refine j_tin (tgt := 69) (off := 45) E d_c10_one_24 h29 (by decide) (by decide) (by decide) (by decide) ?_
          refine j_blk (pc' := 70) (lv' := [(3, .ref b11), (0, .ref a0), (1, .int p1), (2, .int p2)]) (st' := [.ref b11]) E b_c10_one_69_1 rfl ?_
          replace hF := obd_at hF
          obtain ⟨v30, ev30, hF⟩ := hF
          refine j_getI E fg_RX10_91 d_c10_one_70 ev30 ?_
          have e : res = v30 := g_inj hF
          subst e
          exact j_iret E hQ d_c10_one_73 (fun _ h => h)
        · replace hF := g_f hF h29
          rcases Decidable.em (p2 = 2) with h31 | h31
          · replace hF := g_t hF h31
            refine j_tin (tgt := 74) (off := 50) E d_c10_one_24 h31 (by decide) (by decide) (by decide) (by decide) ?_
            refine j_blk (pc' := 75) (lv' := [(3, .ref b11), (0, .ref a0), (1, .int p1), (2, .int p2)]) (st' := [.ref b11]) E b_c10_one_74_1 rfl ?_
            replace hF := obd_at hF
            obtain ⟨v32, ev32, hF⟩ := hF
            refine jv_RX10_95 E hR (by decide) hAA ev32 d_c10_one_75 (Nat.le_of_ble_eq_true rfl) ⟨Nat.zero_le _, Nat.zero_le _⟩ ?_
            have e : res = v32 := g_inj hF
            subst e
            exact j_iret E hQ d_c10_one_78 (fun _ h => h)
          · replace hF := g_f hF h31
            rcases Decidable.em (p2 = 3) with h33 | h33
            · replace hF := g_t hF h33
              refine j_tin (tgt := 79) (off := 55) E d_c10_one_24 h33 (by decide) (by decide) (by decide) (by decide) ?_
              refine j_blk (pc' := 80) (lv' := [(3, .ref b11), (0, .ref a0), (1, .int p1), (2, .int p2)]) (st' := [.ref a0]) E b_c10_one_79_1 rfl ?_
              replace hF := obd_at hF
              obtain ⟨v34, ev34, hF⟩ := hF
              refine j_getf E fg_RX10_23 d_c10_one_80 ev34 ?_
              replace hF := orf_at hF
              obtain ⟨b35, rfl, hF⟩ := hF
              replace hF := obd_at hF
              obtain ⟨v36, ev36, hF⟩ := hF
              refine j_getf E fg_RX10_98 d_c10_one_83 ev36 ?_
              refine j_blk (pc' := 87) (lv' := [(3, .ref b11), (0, .ref a0), (1, .int p1), (2, .int p2)]) (st' := [.int p1, v36]) E b_c10_one_86_1 rfl ?_
              replace hF := orf_at hF
              obtain ⟨b37, rfl, hF⟩ := hF
              replace hF := obd_at hF
              obtain ⟨v38, ev38, hF⟩ := hF
              refine j_iald E d_c10_one_87 ev38 ?_
              have e : res = v38 := g_inj hF
              subst e
              exact j_iret E hQ d_c10_one_88 (fun _ h => h)
            · replace hF := g_f hF h33
              rcases Decidable.em (p2 = 4) with h39 | h39
              · replace hF := g_t hF h39
                refine j_tin (tgt := 89) (off := 65) E d_c10_one_24 h39 (by decide) (by decide) (by decide) (by decide) ?_
                refine j_blk (pc' := 90) (lv' := [(3, .ref b11), (0, .ref a0), (1, .int p1), (2, .int p2)]) (st' := [.ref a0]) E b_c10_one_89_1 rfl ?_
                replace hF := obd_at hF
                obtain ⟨v40, ev40, hF⟩ := hF
                refine j_getf E fg_RX10_23 d_c10_one_90 ev40 ?_
                replace hF := orf_at hF
                obtain ⟨b41, rfl, hF⟩ := hF
                replace hF := ocl_at hF
                obtain ⟨hc, hF⟩ := hF
                replace hF := obd_at hF
                obtain ⟨v43, he42, hF⟩ := hF
                refine j_callv [] [] E w_RX10_101 (hroom 2 3 (by decide) (by decide)) hAA (c2_counting _ κ A _ _  he42) (fun _ h => h) (fun _ _ _ h _ _ => h) (fun _ h => j_recv E h hc rfl) rfl rfl (Nat.le_of_ble_eq_true rfl) d_c10_one_93 ⟨Nat.zero_le _, Nat.zero_le _⟩ ?_
                refine j_blk (pc' := 100) (lv' := [(3, .ref b11), (0, .ref a0), (1, .int p1), (2, .int p2)]) (st' := [.int ((v43 >>> (p1 &&& 31)) &&& (Int32.ofInt 1))]) E b_c10_one_96_4 rfl ?_
                have e : res = (v43 >>> (p1 &&& 31)) &&& (Int32.ofInt 1) := g_inj hF
                subst e
                exact j_iret E hQ d_c10_one_100 (fun _ h => h)
              · replace hF := g_f hF h39
                rcases Decidable.em (p2 = 5) with h44 | h44
                · replace hF := g_t hF h44
                  refine j_tin (tgt := 101) (off := 77) E d_c10_one_24 h44 (by decide) (by decide) (by decide) (by decide) ?_
                  refine j_blk (pc' := 102) (lv' := [(3, .ref b11), (0, .ref a0), (1, .int p1), (2, .int p2)]) (st' := [.ref b11]) E b_c10_one_101_1 rfl ?_
                  replace hF := obd_at hF
                  obtain ⟨v45, ev45, hF⟩ := hF
                  refine jv_RX10_104 E hR (by decide) hAA ev45 d_c10_one_102 (Nat.le_of_ble_eq_true rfl) ⟨Nat.zero_le _, Nat.zero_le _⟩ ?_
                  have e : res = v45 := g_inj hF
                  subst e
                  exact j_iret E hQ d_c10_one_105 (fun _ h => h)
                · replace hF := g_f hF h44
                  have h27 := lv_neT h27 (a := 0) (by decide)
                  have h29 := lv_neT h29 (a := 1) (by decide)
                  have h31 := lv_neT h31 (a := 2) (by decide)
                  have h33 := lv_neT h33 (a := 3) (by decide)
                  have h39 := lv_neT h39 (a := 4) (by decide)
                  have h44 := lv_neT h44 (a := 5) (by decide)
                  refine j_tout (tgt := 106) E d_c10_one_24 (by omega) (by decide) ?_
                  refine j_blk (pc' := 107) (lv' := [(3, .ref b11), (0, .ref a0), (1, .int p1), (2, .int p2)]) (st' := [.int (Int32.ofInt (-1))]) E b_c10_one_106_1 rfl ?_
                  have e : res = Int32.ofInt (-1) := g_inj hF
                  subst e
                  exact j_iret E hQ d_c10_one_107 (fun _ h => h)
  · replace hF := g_t hF h5
    refine j_blk (pc' := 12) (lv' := [(0, .ref a0), (1, .int p1), (2, .int p2)]) (st' := [.int (Int32.ofInt (-1))]) E b_c10_one_11_1 rfl ?_
    have e : res = Int32.ofInt (-1) := g_inj hF
    subst e
    exact j_iret E hQ d_c10_one_12 (fun _ h => h)
theorem b_c10_masters_0_1 : bdec cX10_masters 0 [.aload_n 0] = true := by decide +kernel
theorem d_c10_masters_1 : decode cX10_masters 1 = .ok (.getfield 23, 3) := by decide +kernel
theorem b_c10_masters_4_2 : bdec cX10_masters 4 [.iload_n 1, .iload_n 2] = true := by decide +kernel
theorem d_c10_masters_6 : decode cX10_masters 6 = .ok (.invokevirtual 116, 3) := by decide +kernel
theorem d_c10_masters_9 : decode cX10_masters 9 = .ok (.ifCond .ne 5, 3) := by decide +kernel
theorem b_c10_masters_14_1 : bdec cX10_masters 14 [.aload_n 0] = true := by decide +kernel
theorem d_c10_masters_15 : decode cX10_masters 15 = .ok (.getfield 23, 3) := by decide +kernel
theorem b_c10_masters_18_1 : bdec cX10_masters 18 [.aload_n 0] = true := by decide +kernel
theorem d_c10_masters_19 : decode cX10_masters 19 = .ok (.getfield 23, 3) := by decide +kernel
theorem d_c10_masters_22 : decode cX10_masters 22 = .ok (.invokevirtual 101, 3) := by decide +kernel
theorem b_c10_masters_25_2 : bdec cX10_masters 25 [.iload_n 1, .iload_n 2] = true := by decide +kernel
theorem d_c10_masters_27 : decode cX10_masters 27 = .ok (.invokevirtual 137, 3) := by decide +kernel
theorem d_c10_masters_30 : decode cX10_masters 30 = .ok (.ireturn, 1) := by decide +kernel
theorem b_c10_masters_12_1 : bdec cX10_masters 12 [.iconst (-1)] = true := by decide +kernel
theorem d_c10_masters_13 : decode cX10_masters 13 = .ok (.ireturn, 1) := by decide +kernel
def f10_masters (s0 : HM) (a0 : Nat) (p1 : Int32) (p2 : Int32) : Option (Int32) := obd (hfld s0 [10] 1 a0) (fun v1 => orf v1 (fun b2 => ocl s0 b2 2 (obd (f2_hasBoth s0 b2 p1 p2) (fun v4 => if v4 = 0 then (some (Int32.ofInt (-1))) else (obd (hfld s0 [10] 1 a0) (fun v6 => obd (hfld s0 [10] 1 a0) (fun v7 => orf v7 (fun b8 => orf v6 (fun b9 => ocl s0 b8 2 (obd (f2_counting s0 b8) (fun v11 => ocl s0 b9 2 (obd (f2_mastersAmong s0 b9 v11 p1 p2) (fun v13 => some v13)))))))))))))
set_option maxRecDepth 100000 in
set_option maxHeartbeats 4000000 in
theorem c10_masters (l : Launch) (κ : KP) (A : Nat → Prop) (s0 : HM) (a0 : Nat) (p1 : Int32) (p2 : Int32) {res : Int32} (hF : f10_masters s0 a0 p1 p2 = some res) : Met l yX10_masters (Cond.code yX10_masters cX10_masters 3 (some .int) :: WT) (rmL 3 0 0) (PP κ A [.ref a0, .int p1, .int p2] (HS κ A s0)) (QQ (some (.int res)) (HS κ A s0) A) 0 0 A := by
  refine met_of (own := RX10) (by decide) rfl (Nat.le_of_ble_eq_true rfl) ?_
  intro Γ E hQ hL hR hA hent hini
  have hAA : ∀ q, A q → jA Γ q := fun q h => by rw [hA]; exact h
  have hroom : ∀ (d mL : Nat) {mc ms : Nat}, d < 3 → mL ≤ 21 → (rmL d mc ms).frames + 1 ≤ (jR Γ).frames ∧ 8 + (mL + 11) + (rmL d mc ms).locals ≤ (jR Γ).locals := fun d mL mc ms h1 h2 => by rw [hR]; exact rmL_le h1 h2
  show J Γ 3 (HS κ A s0) 0 0 0 [(0, .ref a0), (1, .int p1), (2, .int p2)] []
  unfold f10_masters at hF
  refine j_blk (pc' := 1) (lv' := [(0, .ref a0), (1, .int p1), (2, .int p2)]) (st' := [.ref a0]) E b_c10_masters_0_1 rfl ?_
  replace hF := obd_at hF
  obtain ⟨v1, ev1, hF⟩ := hF
  refine j_getf E fg_RX10_23 d_c10_masters_1 ev1 ?_
  refine j_blk (pc' := 6) (lv' := [(0, .ref a0), (1, .int p1), (2, .int p2)]) (st' := [.int p2, .int p1, v1]) E b_c10_masters_4_2 rfl ?_
  replace hF := orf_at hF
  obtain ⟨b2, rfl, hF⟩ := hF
  replace hF := ocl_at hF
  obtain ⟨hc, hF⟩ := hF
  replace hF := obd_at hF
  obtain ⟨v4, he3, hF⟩ := hF
  refine j_callv [.int p1, .int p2] [] E w_RX10_116 (hroom 1 3 (by decide) (by decide)) hAA (c2_hasBoth _ κ A _ _ _ _  he3) (fun _ h => h) (fun _ _ _ h _ _ => h) (fun _ h => j_recv E h hc rfl) rfl rfl (Nat.le_of_ble_eq_true rfl) d_c10_masters_6 ⟨Nat.zero_le _, Nat.zero_le _⟩ ?_
  refine j_if_ne (tgt := 14) E d_c10_masters_9 (by decide) (fun h5 => ?_) (fun h5 => ?_)
  · replace hF := g_f hF h5
    refine j_blk (pc' := 15) (lv' := [(0, .ref a0), (1, .int p1), (2, .int p2)]) (st' := [.ref a0]) E b_c10_masters_14_1 rfl ?_
    replace hF := obd_at hF
    obtain ⟨v6, ev6, hF⟩ := hF
    refine j_getf E fg_RX10_23 d_c10_masters_15 ev6 ?_
    refine j_blk (pc' := 19) (lv' := [(0, .ref a0), (1, .int p1), (2, .int p2)]) (st' := [.ref a0, v6]) E b_c10_masters_18_1 rfl ?_
    replace hF := obd_at hF
    obtain ⟨v7, ev7, hF⟩ := hF
    refine j_getf E fg_RX10_23 d_c10_masters_19 ev7 ?_
    replace hF := orf_at hF
    obtain ⟨b8, rfl, hF⟩ := hF
    replace hF := orf_at hF
    obtain ⟨b9, rfl, hF⟩ := hF
    replace hF := ocl_at hF
    obtain ⟨hc, hF⟩ := hF
    replace hF := obd_at hF
    obtain ⟨v11, he10, hF⟩ := hF
    refine j_callv [] [.ref b9] E w_RX10_101 (hroom 2 3 (by decide) (by decide)) hAA (c2_counting _ κ A _ _  he10) (fun _ h => h) (fun _ _ _ h _ _ => h) (fun _ h => j_recv E h hc rfl) rfl rfl (Nat.le_of_ble_eq_true rfl) d_c10_masters_22 ⟨Nat.zero_le _, Nat.zero_le _⟩ ?_
    refine j_blk (pc' := 27) (lv' := [(0, .ref a0), (1, .int p1), (2, .int p2)]) (st' := [.int p2, .int p1, .int v11, .ref b9]) E b_c10_masters_25_2 rfl ?_
    replace hF := ocl_at hF
    obtain ⟨hc, hF⟩ := hF
    replace hF := obd_at hF
    obtain ⟨v13, he12, hF⟩ := hF
    refine j_callv [.int v11, .int p1, .int p2] [] E w_RX10_137 (hroom 0 4 (by decide) (by decide)) hAA (c2_mastersAmong _ κ A _ _ _ _ _  he12) (fun _ h => h) (fun _ _ _ h _ _ => h) (fun _ h => j_recv E h hc rfl) rfl rfl (Nat.le_of_ble_eq_true rfl) d_c10_masters_27 ⟨Nat.zero_le _, Nat.zero_le _⟩ ?_
    have e : res = v13 := g_inj hF
    subst e
    exact j_iret E hQ d_c10_masters_30 (fun _ h => h)
  · replace hF := g_t hF h5
    refine j_blk (pc' := 13) (lv' := [(0, .ref a0), (1, .int p1), (2, .int p2)]) (st' := [.int (Int32.ofInt (-1))]) E b_c10_masters_12_1 rfl ?_
    have e : res = Int32.ofInt (-1) := g_inj hF
    subst e
    exact j_iret E hQ d_c10_masters_13 (fun _ h => h)
theorem b_c10_copy_0_1 : bdec cX10_copy 0 [.iload_n 1] = true := by decide +kernel
theorem d_c10_copy_1 : decode cX10_copy 1 = .ok (.invokestatic 211, 3) := by decide +kernel
theorem d_c10_copy_4 : decode cX10_copy 4 = .ok (.ifCond .eq 10, 3) := by decide +kernel
theorem b_c10_copy_14_1 : bdec cX10_copy 14 [.iconst (-1)] = true := by decide +kernel
theorem d_c10_copy_15 : decode cX10_copy 15 = .ok (.ireturn, 1) := by decide +kernel
theorem b_c10_copy_7_1 : bdec cX10_copy 7 [.iload_n 3] = true := by decide +kernel
theorem d_c10_copy_8 : decode cX10_copy 8 = .ok (.invokestatic 211, 3) := by decide +kernel
theorem d_c10_copy_11 : decode cX10_copy 11 = .ok (.ifCond .ne 5, 3) := by decide +kernel
theorem b_c10_copy_16_2 : bdec cX10_copy 16 [.aload_n 0, .iload_n 1] = true := by decide +kernel
theorem d_c10_copy_18 : decode cX10_copy 18 = .ok (.invokevirtual 247, 3) := by decide +kernel
theorem d_c10_copy_21 : decode cX10_copy 21 = .ok (.ifCond .ne 11, 3) := by decide +kernel
theorem b_c10_copy_32_1 : bdec cX10_copy 32 [.bipush (-11)] = true := by decide +kernel
theorem d_c10_copy_34 : decode cX10_copy 34 = .ok (.ireturn, 1) := by decide +kernel
theorem b_c10_copy_24_2 : bdec cX10_copy 24 [.aload_n 0, .iload_n 3] = true := by decide +kernel
theorem d_c10_copy_26 : decode cX10_copy 26 = .ok (.invokevirtual 247, 3) := by decide +kernel
theorem d_c10_copy_29 : decode cX10_copy 29 = .ok (.ifCond .eq 6, 3) := by decide +kernel
theorem b_c10_copy_35_2 : bdec cX10_copy 35 [.aload_n 0, .iload_n 1] = true := by decide +kernel
theorem d_c10_copy_37 : decode cX10_copy 37 = .ok (.invokevirtual 217, 3) := by decide +kernel
theorem b_c10_copy_40_3 : bdec cX10_copy 40 [.astore 6, .aload_n 0, .iload_n 3] = true := by decide +kernel
theorem d_c10_copy_44 : decode cX10_copy 44 = .ok (.invokevirtual 217, 3) := by decide +kernel
theorem b_c10_copy_47_2 : bdec cX10_copy 47 [.astore 7, .aload 6] = true := by decide +kernel
theorem d_c10_copy_51 : decode cX10_copy 51 = .ok (.ifnull 21, 3) := by decide +kernel
theorem b_c10_copy_72_1 : bdec cX10_copy 72 [.bipush (-12)] = true := by decide +kernel
theorem d_c10_copy_74 : decode cX10_copy 74 = .ok (.ireturn, 1) := by decide +kernel
theorem b_c10_copy_54_1 : bdec cX10_copy 54 [.aload 7] = true := by decide +kernel
theorem d_c10_copy_56 : decode cX10_copy 56 = .ok (.ifnull 16, 3) := by decide +kernel
theorem b_c10_copy_59_1 : bdec cX10_copy 59 [.aload 6] = true := by decide +kernel
theorem d_c10_copy_61 : decode cX10_copy 61 = .ok (.getfield 250, 3) := by decide +kernel
theorem b_c10_copy_64_1 : bdec cX10_copy 64 [.aload 7] = true := by decide +kernel
theorem d_c10_copy_66 : decode cX10_copy 66 = .ok (.getfield 250, 3) := by decide +kernel
theorem d_c10_copy_69 : decode cX10_copy 69 = .ok (.if_icmp .eq 6, 3) := by decide +kernel
theorem b_c10_copy_75_3 : bdec cX10_copy 75 [.aload 6, .iload_n 2, .iload 5] = true := by decide +kernel
theorem d_c10_copy_80 : decode cX10_copy 80 = .ok (.invokevirtual 229, 3) := by decide +kernel
theorem d_c10_copy_83 : decode cX10_copy 83 = .ok (.ifCond .eq 15, 3) := by decide +kernel
theorem b_c10_copy_98_1 : bdec cX10_copy 98 [.bipush (-13)] = true := by decide +kernel
theorem d_c10_copy_100 : decode cX10_copy 100 = .ok (.ireturn, 1) := by decide +kernel
theorem b_c10_copy_86_3 : bdec cX10_copy 86 [.aload 7, .iload 4, .iload 5] = true := by decide +kernel
theorem d_c10_copy_92 : decode cX10_copy 92 = .ok (.invokevirtual 229, 3) := by decide +kernel
theorem d_c10_copy_95 : decode cX10_copy 95 = .ok (.ifCond .ne 6, 3) := by decide +kernel
theorem b_c10_copy_101_1 : bdec cX10_copy 101 [.aload 6] = true := by decide +kernel
theorem d_c10_copy_103 : decode cX10_copy 103 = .ok (.getfield 253, 3) := by decide +kernel
theorem b_c10_copy_106_2 : bdec cX10_copy 106 [.iload_n 2, .aload 7] = true := by decide +kernel
theorem d_c10_copy_109 : decode cX10_copy 109 = .ok (.getfield 253, 3) := by decide +kernel
theorem b_c10_copy_112_2 : bdec cX10_copy 112 [.iload 4, .iload 5] = true := by decide +kernel
theorem d_c10_copy_116 : decode cX10_copy 116 = .ok (.invokestatic 256, 3) := by decide +kernel
theorem b_c10_copy_119_1 : bdec cX10_copy 119 [.iload 5] = true := by decide +kernel
theorem d_c10_copy_121 : decode cX10_copy 121 = .ok (.ireturn, 1) := by decide +kernel
def f10_copy (s0 : HM) (a0 : Nat) (p1 : Int32) (p2 : Int32) (p3 : Int32) (p4 : Int32) (p5 : Int32) : Option (Int32 × HM) := obd (f10_isShelf p1) (fun v2 => if v2 = 0 then (some (Int32.ofInt (-1), s0)) else (obd (f10_isShelf p3) (fun v5 => if v5 = 0 then (some (Int32.ofInt (-1), s0)) else (ocl s0 a0 10 (obd (f10_isBare s0 a0 p1) (fun v8 => if v8 = 0 then (ocl s0 a0 10 (obd (f10_isBare s0 a0 p3) (fun v11 => if v11 = 0 then (ocl s0 a0 10 (obd (f10_rowOn s0 a0 p1) (fun v14 => onl v14 (ocl s0 a0 10 (obd (f10_rowOn s0 a0 p3) (fun v17 => onl v17 (some ((Int8.ofInt (-12)).toInt32, s0)) (fun b18 => some ((Int8.ofInt (-12)).toInt32, s0))))) (fun b15 => ocl s0 a0 10 (obd (f10_rowOn s0 a0 p3) (fun v20 => onl v20 (some ((Int8.ofInt (-12)).toInt32, s0)) (fun b21 => obd (hfi s0 [8] 0 b15) (fun v22 => obd (hfi s0 [8] 0 b21) (fun v23 => if v22 = v23 then (ocl s0 b15 8 (obd (f8_hasPlaces s0 b15 p2 p5) (fun v26 => if v26 = 0 then (some ((Int8.ofInt (-13)).toInt32, s0)) else (ocl s0 b21 8 (obd (f8_hasPlaces s0 b21 p4 p5) (fun v29 => if v29 = 0 then (some ((Int8.ofInt (-13)).toInt32, s0)) else (obd (hfld s0 [8] 1 b15) (fun v31 => obd (hfld s0 [8] 1 b21) (fun v32 => orf v32 (fun b33 => orf v31 (fun b34 => obd (hcpi s0 b34 p2 b33 p4 p5) (fun s35 => some (p5, s35))))))))))))) else (some ((Int8.ofInt (-12)).toInt32, s0))))))))))) else (some ((Int8.ofInt (-11)).toInt32, s0))))) else (some ((Int8.ofInt (-11)).toInt32, s0))))))))
set_option maxRecDepth 100000 in
set_option maxHeartbeats 4000000 in
theorem c10_copy (l : Launch) (κ : KP) (A : Nat → Prop) (s0 : HM) (a0 : Nat) (p1 : Int32) (p2 : Int32) (p3 : Int32) (p4 : Int32) (p5 : Int32) {res : Int32 × HM} (hF : f10_copy s0 a0 p1 p2 p3 p4 p5 = some res) : Met l yX10_copy (Cond.code yX10_copy cX10_copy 8 (some .int) :: WT) (rmL 3 0 0) (PP κ A [.ref a0, .int p1, .int p2, .int p3, .int p4, .int p5] (HS κ A s0)) (QQ (some (.int res.1)) (HS κ A res.2) A) 0 0 A := by
  refine met_of (own := RX10) (by decide) rfl (Nat.le_of_ble_eq_true rfl) ?_
  intro Γ E hQ hL hR hA hent hini
  have hAA : ∀ q, A q → jA Γ q := fun q h => by rw [hA]; exact h
  have hroom : ∀ (d mL : Nat) {mc ms : Nat}, d < 3 → mL ≤ 21 → (rmL d mc ms).frames + 1 ≤ (jR Γ).frames ∧ 8 + (mL + 11) + (rmL d mc ms).locals ≤ (jR Γ).locals := fun d mL mc ms h1 h2 => by rw [hR]; exact rmL_le h1 h2
  show J Γ 8 (HS κ A s0) 0 0 0 [(0, .ref a0), (1, .int p1), (2, .int p2), (3, .int p3), (4, .int p4), (5, .int p5)] []
  unfold f10_copy at hF
  refine j_blk (pc' := 1) (lv' := [(0, .ref a0), (1, .int p1), (2, .int p2), (3, .int p3), (4, .int p4), (5, .int p5)]) (st' := [.int p1]) E b_c10_copy_0_1 rfl ?_
  replace hF := obd_at hF
  obtain ⟨v2, he1, hF⟩ := hF
  refine j_calls [.int p1] [] E w_RX10_211 (hroom 0 1 (by decide) (by decide)) hAA (c10_isShelf _ κ A (HS κ A s0) _  he1) (fun _ h => h) (fun _ _ _ h _ _ => h) rfl rfl (Nat.le_of_ble_eq_true rfl) d_c10_copy_1 ⟨Nat.zero_le _, Nat.zero_le _⟩ ?_
  refine j_if_eq (tgt := 14) E d_c10_copy_4 (by decide) (fun h3 => ?_) (fun h3 => ?_)
  · replace hF := g_t hF h3
    refine j_blk (pc' := 15) (lv' := [(0, .ref a0), (1, .int p1), (2, .int p2), (3, .int p3), (4, .int p4), (5, .int p5)]) (st' := [.int (Int32.ofInt (-1))]) E b_c10_copy_14_1 rfl ?_
    have e : res = (Int32.ofInt (-1), s0) := g_inj hF
    subst e
    exact j_iret E hQ d_c10_copy_15 (fun _ h => h)
  · replace hF := g_f hF h3
    refine j_blk (pc' := 8) (lv' := [(0, .ref a0), (1, .int p1), (2, .int p2), (3, .int p3), (4, .int p4), (5, .int p5)]) (st' := [.int p3]) E b_c10_copy_7_1 rfl ?_
    replace hF := obd_at hF
    obtain ⟨v5, he4, hF⟩ := hF
    refine j_calls [.int p3] [] E w_RX10_211 (hroom 0 1 (by decide) (by decide)) hAA (c10_isShelf _ κ A (HS κ A s0) _  he4) (fun _ h => h) (fun _ _ _ h _ _ => h) rfl rfl (Nat.le_of_ble_eq_true rfl) d_c10_copy_8 ⟨Nat.zero_le _, Nat.zero_le _⟩ ?_
    refine j_if_ne (tgt := 16) E d_c10_copy_11 (by decide) (fun h6 => ?_) (fun h6 => ?_)
    · replace hF := g_f hF h6
      refine j_blk (pc' := 18) (lv' := [(0, .ref a0), (1, .int p1), (2, .int p2), (3, .int p3), (4, .int p4), (5, .int p5)]) (st' := [.int p1, .ref a0]) E b_c10_copy_16_2 rfl ?_
      replace hF := ocl_at hF
      obtain ⟨hc, hF⟩ := hF
      replace hF := obd_at hF
      obtain ⟨v8, he7, hF⟩ := hF
      refine j_callv [.int p1] [] E w_RX10_247 (hroom 2 2 (by decide) (by decide)) hAA (c10_isBare _ κ A _ _ _  he7) (fun _ h => h) (fun _ _ _ h _ _ => h) (fun _ h => j_recv E h hc rfl) rfl rfl (Nat.le_of_ble_eq_true rfl) d_c10_copy_18 ⟨Nat.zero_le _, Nat.zero_le _⟩ ?_
      refine j_if_ne (tgt := 32) E d_c10_copy_21 (by decide) (fun h9 => ?_) (fun h9 => ?_)
      · replace hF := g_f hF h9
        refine j_blk (pc' := 34) (lv' := [(0, .ref a0), (1, .int p1), (2, .int p2), (3, .int p3), (4, .int p4), (5, .int p5)]) (st' := [.int ((Int8.ofInt (-11)).toInt32)]) E b_c10_copy_32_1 rfl ?_
        have e : res = ((Int8.ofInt (-11)).toInt32, s0) := g_inj hF
        subst e
        exact j_iret E hQ d_c10_copy_34 (fun _ h => h)
      · replace hF := g_t hF h9
        refine j_blk (pc' := 26) (lv' := [(0, .ref a0), (1, .int p1), (2, .int p2), (3, .int p3), (4, .int p4), (5, .int p5)]) (st' := [.int p3, .ref a0]) E b_c10_copy_24_2 rfl ?_
        replace hF := ocl_at hF
        obtain ⟨hc, hF⟩ := hF
        replace hF := obd_at hF
        obtain ⟨v11, he10, hF⟩ := hF
        refine j_callv [.int p3] [] E w_RX10_247 (hroom 2 2 (by decide) (by decide)) hAA (c10_isBare _ κ A _ _ _  he10) (fun _ h => h) (fun _ _ _ h _ _ => h) (fun _ h => j_recv E h hc rfl) rfl rfl (Nat.le_of_ble_eq_true rfl) d_c10_copy_26 ⟨Nat.zero_le _, Nat.zero_le _⟩ ?_
        refine j_if_eq (tgt := 35) E d_c10_copy_29 (by decide) (fun h12 => ?_) (fun h12 => ?_)
        · replace hF := g_t hF h12
          refine j_blk (pc' := 37) (lv' := [(0, .ref a0), (1, .int p1), (2, .int p2), (3, .int p3), (4, .int p4), (5, .int p5)]) (st' := [.int p1, .ref a0]) E b_c10_copy_35_2 rfl ?_
          replace hF := ocl_at hF
          obtain ⟨hc, hF⟩ := hF
          replace hF := obd_at hF
          obtain ⟨v14, he13, hF⟩ := hF
          refine j_callv [.int p1] [] E w_RX10_217 (hroom 1 2 (by decide) (by decide)) hAA (c10_rowOn _ κ A _ _ _  he13) (fun _ h => h) (fun _ _ _ h _ _ => h) (fun _ h => j_recv E h hc rfl) rfl rfl (Nat.le_of_ble_eq_true rfl) d_c10_copy_37 ⟨Nat.zero_le _, Nat.zero_le _⟩ ?_
          replace hF := onl_at hF
          rcases hF with ⟨rfl, hF⟩ | ⟨b15, rfl, hF⟩
          · skip
            refine j_blk (pc' := 44) (lv' := [(6, .null), (0, .ref a0), (1, .int p1), (2, .int p2), (3, .int p3), (4, .int p4), (5, .int p5)]) (st' := [.int p3, .ref a0]) E b_c10_copy_40_3 rfl ?_
            replace hF := ocl_at hF
            obtain ⟨hc, hF⟩ := hF
            replace hF := obd_at hF
            obtain ⟨v17, he16, hF⟩ := hF
            refine j_callv [.int p3] [] E w_RX10_217 (hroom 1 2 (by decide) (by decide)) hAA (c10_rowOn _ κ A _ _ _  he16) (fun _ h => h) (fun _ _ _ h _ _ => h) (fun _ h => j_recv E h hc rfl) rfl rfl (Nat.le_of_ble_eq_true rfl) d_c10_copy_44 ⟨Nat.zero_le _, Nat.zero_le _⟩ ?_
            replace hF := onl_at hF
            rcases hF with ⟨rfl, hF⟩ | ⟨b18, rfl, hF⟩
            · skip
              refine j_blk (pc' := 51) (lv' := [(7, .null), (6, .null), (0, .ref a0), (1, .int p1), (2, .int p2), (3, .int p3), (4, .int p4), (5, .int p5)]) (st' := [.null]) E b_c10_copy_47_2 rfl ?_
              refine j_null_y (tgt := 72) E d_c10_copy_51 (by decide) ?_
              refine j_blk (pc' := 74) (lv' := [(7, .null), (6, .null), (0, .ref a0), (1, .int p1), (2, .int p2), (3, .int p3), (4, .int p4), (5, .int p5)]) (st' := [.int ((Int8.ofInt (-12)).toInt32)]) E b_c10_copy_72_1 rfl ?_
              have e : res = ((Int8.ofInt (-12)).toInt32, s0) := g_inj hF
              subst e
              exact j_iret E hQ d_c10_copy_74 (fun _ h => h)
            · skip
              refine j_blk (pc' := 51) (lv' := [(7, .ref b18), (6, .null), (0, .ref a0), (1, .int p1), (2, .int p2), (3, .int p3), (4, .int p4), (5, .int p5)]) (st' := [.null]) E b_c10_copy_47_2 rfl ?_
              refine j_null_y (tgt := 72) E d_c10_copy_51 (by decide) ?_
              refine j_blk (pc' := 74) (lv' := [(7, .ref b18), (6, .null), (0, .ref a0), (1, .int p1), (2, .int p2), (3, .int p3), (4, .int p4), (5, .int p5)]) (st' := [.int ((Int8.ofInt (-12)).toInt32)]) E b_c10_copy_72_1 rfl ?_
              have e : res = ((Int8.ofInt (-12)).toInt32, s0) := g_inj hF
              subst e
              exact j_iret E hQ d_c10_copy_74 (fun _ h => h)
          · skip
            refine j_blk (pc' := 44) (lv' := [(6, .ref b15), (0, .ref a0), (1, .int p1), (2, .int p2), (3, .int p3), (4, .int p4), (5, .int p5)]) (st' := [.int p3, .ref a0]) E b_c10_copy_40_3 rfl ?_
            replace hF := ocl_at hF
            obtain ⟨hc, hF⟩ := hF
            replace hF := obd_at hF
            obtain ⟨v20, he19, hF⟩ := hF
            refine j_callv [.int p3] [] E w_RX10_217 (hroom 1 2 (by decide) (by decide)) hAA (c10_rowOn _ κ A _ _ _  he19) (fun _ h => h) (fun _ _ _ h _ _ => h) (fun _ h => j_recv E h hc rfl) rfl rfl (Nat.le_of_ble_eq_true rfl) d_c10_copy_44 ⟨Nat.zero_le _, Nat.zero_le _⟩ ?_
            replace hF := onl_at hF
            rcases hF with ⟨rfl, hF⟩ | ⟨b21, rfl, hF⟩
            · skip
              refine j_blk (pc' := 51) (lv' := [(7, .null), (6, .ref b15), (0, .ref a0), (1, .int p1), (2, .int p2), (3, .int p3), (4, .int p4), (5, .int p5)]) (st' := [.ref b15]) E b_c10_copy_47_2 rfl ?_
              refine j_null_n E d_c10_copy_51 ?_
              refine j_blk (pc' := 56) (lv' := [(7, .null), (6, .ref b15), (0, .ref a0), (1, .int p1), (2, .int p2), (3, .int p3), (4, .int p4), (5, .int p5)]) (st' := [.null]) E b_c10_copy_54_1 rfl ?_
              refine j_null_y (tgt := 72) E d_c10_copy_56 (by decide) ?_
              refine j_blk (pc' := 74) (lv' := [(7, .null), (6, .ref b15), (0, .ref a0), (1, .int p1), (2, .int p2), (3, .int p3), (4, .int p4), (5, .int p5)]) (st' := [.int ((Int8.ofInt (-12)).toInt32)]) E b_c10_copy_72_1 rfl ?_
              have e : res = ((Int8.ofInt (-12)).toInt32, s0) := g_inj hF
              subst e
              exact j_iret E hQ d_c10_copy_74 (fun _ h => h)
            · skip
              refine j_blk (pc' := 51) (lv' := [(7, .ref b21), (6, .ref b15), (0, .ref a0), (1, .int p1), (2, .int p2), (3, .int p3), (4, .int p4), (5, .int p5)]) (st' := [.ref b15]) E b_c10_copy_47_2 rfl ?_
              refine j_null_n E d_c10_copy_51 ?_
              refine j_blk (pc' := 56) (lv' := [(7, .ref b21), (6, .ref b15), (0, .ref a0), (1, .int p1), (2, .int p2), (3, .int p3), (4, .int p4), (5, .int p5)]) (st' := [.ref b21]) E b_c10_copy_54_1 rfl ?_
              refine j_null_n E d_c10_copy_56 ?_
              refine j_blk (pc' := 61) (lv' := [(7, .ref b21), (6, .ref b15), (0, .ref a0), (1, .int p1), (2, .int p2), (3, .int p3), (4, .int p4), (5, .int p5)]) (st' := [.ref b15]) E b_c10_copy_59_1 rfl ?_
              replace hF := obd_at hF
              obtain ⟨v22, ev22, hF⟩ := hF
              refine j_getI E fg_RX10_250 d_c10_copy_61 ev22 ?_
              refine j_blk (pc' := 66) (lv' := [(7, .ref b21), (6, .ref b15), (0, .ref a0), (1, .int p1), (2, .int p2), (3, .int p3), (4, .int p4), (5, .int p5)]) (st' := [.ref b21, .int v22]) E b_c10_copy_64_1 rfl ?_
              replace hF := obd_at hF
              obtain ⟨v23, ev23, hF⟩ := hF
              refine j_getI E fg_RX10_250 d_c10_copy_66 ev23 ?_
              refine j_icmp_eq (tgt := 75) E d_c10_copy_69 (by decide) (fun h24 => ?_) (fun h24 => ?_)
              · replace hF := g_t hF h24
                refine j_blk (pc' := 80) (lv' := [(7, .ref b21), (6, .ref b15), (0, .ref a0), (1, .int p1), (2, .int p2), (3, .int p3), (4, .int p4), (5, .int p5)]) (st' := [.int p5, .int p2, .ref b15]) E b_c10_copy_75_3 rfl ?_
                replace hF := ocl_at hF
                obtain ⟨hc, hF⟩ := hF
                replace hF := obd_at hF
                obtain ⟨v26, he25, hF⟩ := hF
                refine j_callv [.int p2, .int p5] [] E w_RX10_229 (hroom 0 3 (by decide) (by decide)) hAA (c8_hasPlaces _ κ A _ _ _ _  he25) (fun _ h => h) (fun _ _ _ h _ _ => h) (fun _ h => j_recv E h hc rfl) rfl rfl (Nat.le_of_ble_eq_true rfl) d_c10_copy_80 ⟨Nat.zero_le _, Nat.zero_le _⟩ ?_
                refine j_if_eq (tgt := 98) E d_c10_copy_83 (by decide) (fun h27 => ?_) (fun h27 => ?_)
                · replace hF := g_t hF h27
                  refine j_blk (pc' := 100) (lv' := [(7, .ref b21), (6, .ref b15), (0, .ref a0), (1, .int p1), (2, .int p2), (3, .int p3), (4, .int p4), (5, .int p5)]) (st' := [.int ((Int8.ofInt (-13)).toInt32)]) E b_c10_copy_98_1 rfl ?_
                  have e : res = ((Int8.ofInt (-13)).toInt32, s0) := g_inj hF
                  subst e
                  exact j_iret E hQ d_c10_copy_100 (fun _ h => h)
                · replace hF := g_f hF h27
                  refine j_blk (pc' := 92) (lv' := [(7, .ref b21), (6, .ref b15), (0, .ref a0), (1, .int p1), (2, .int p2), (3, .int p3), (4, .int p4), (5, .int p5)]) (st' := [.int p5, .int p4, .ref b21]) E b_c10_copy_86_3 rfl ?_
                  replace hF := ocl_at hF
                  obtain ⟨hc, hF⟩ := hF
                  replace hF := obd_at hF
                  obtain ⟨v29, he28, hF⟩ := hF
                  refine j_callv [.int p4, .int p5] [] E w_RX10_229 (hroom 0 3 (by decide) (by decide)) hAA (c8_hasPlaces _ κ A _ _ _ _  he28) (fun _ h => h) (fun _ _ _ h _ _ => h) (fun _ h => j_recv E h hc rfl) rfl rfl (Nat.le_of_ble_eq_true rfl) d_c10_copy_92 ⟨Nat.zero_le _, Nat.zero_le _⟩ ?_
                  refine j_if_ne (tgt := 101) E d_c10_copy_95 (by decide) (fun h30 => ?_) (fun h30 => ?_)
                  · replace hF := g_f hF h30
                    refine j_blk (pc' := 103) (lv' := [(7, .ref b21), (6, .ref b15), (0, .ref a0), (1, .int p1), (2, .int p2), (3, .int p3), (4, .int p4), (5, .int p5)]) (st' := [.ref b15]) E b_c10_copy_101_1 rfl ?_
                    replace hF := obd_at hF
                    obtain ⟨v31, ev31, hF⟩ := hF
                    refine j_getf E fg_RX10_253 d_c10_copy_103 ev31 ?_
                    refine j_blk (pc' := 109) (lv' := [(7, .ref b21), (6, .ref b15), (0, .ref a0), (1, .int p1), (2, .int p2), (3, .int p3), (4, .int p4), (5, .int p5)]) (st' := [.ref b21, .int p2, v31]) E b_c10_copy_106_2 rfl ?_
                    replace hF := obd_at hF
                    obtain ⟨v32, ev32, hF⟩ := hF
                    refine j_getf E fg_RX10_253 d_c10_copy_109 ev32 ?_
                    refine j_blk (pc' := 116) (lv' := [(7, .ref b21), (6, .ref b15), (0, .ref a0), (1, .int p1), (2, .int p2), (3, .int p3), (4, .int p4), (5, .int p5)]) (st' := [.int p5, .int p4, v32, .int p2, v31]) E b_c10_copy_112_2 rfl ?_
                    replace hF := orf_at hF
                    obtain ⟨b33, rfl, hF⟩ := hF
                    replace hF := orf_at hF
                    obtain ⟨b34, rfl, hF⟩ := hF
                    replace hF := obd_at hF
                    obtain ⟨s35, es35, hF⟩ := hF
                    refine j_cpi E cc_RX10_256 d_c10_copy_116 es35 hAA (by rw [hR]; decide) (by rw [hR]; decide) ?_
                    refine j_blk (pc' := 121) (lv' := [(7, .ref b21), (6, .ref b15), (0, .ref a0), (1, .int p1), (2, .int p2), (3, .int p3), (4, .int p4), (5, .int p5)]) (st' := [.int p5]) E b_c10_copy_119_1 rfl ?_
                    have e : res = (p5, s35) := g_inj hF
                    subst e
                    exact j_iret E hQ d_c10_copy_121 (fun _ h => h)
                  · replace hF := g_t hF h30
                    refine j_blk (pc' := 100) (lv' := [(7, .ref b21), (6, .ref b15), (0, .ref a0), (1, .int p1), (2, .int p2), (3, .int p3), (4, .int p4), (5, .int p5)]) (st' := [.int ((Int8.ofInt (-13)).toInt32)]) E b_c10_copy_98_1 rfl ?_
                    have e : res = ((Int8.ofInt (-13)).toInt32, s0) := g_inj hF
                    subst e
                    exact j_iret E hQ d_c10_copy_100 (fun _ h => h)
              · replace hF := g_f hF h24
                refine j_blk (pc' := 74) (lv' := [(7, .ref b21), (6, .ref b15), (0, .ref a0), (1, .int p1), (2, .int p2), (3, .int p3), (4, .int p4), (5, .int p5)]) (st' := [.int ((Int8.ofInt (-12)).toInt32)]) E b_c10_copy_72_1 rfl ?_
                have e : res = ((Int8.ofInt (-12)).toInt32, s0) := g_inj hF
                subst e
                exact j_iret E hQ d_c10_copy_74 (fun _ h => h)
        · replace hF := g_f hF h12
          refine j_blk (pc' := 34) (lv' := [(0, .ref a0), (1, .int p1), (2, .int p2), (3, .int p3), (4, .int p4), (5, .int p5)]) (st' := [.int ((Int8.ofInt (-11)).toInt32)]) E b_c10_copy_32_1 rfl ?_
          have e : res = ((Int8.ofInt (-11)).toInt32, s0) := g_inj hF
          subst e
          exact j_iret E hQ d_c10_copy_34 (fun _ h => h)
    · replace hF := g_t hF h6
      refine j_blk (pc' := 15) (lv' := [(0, .ref a0), (1, .int p1), (2, .int p2), (3, .int p3), (4, .int p4), (5, .int p5)]) (st' := [.int (Int32.ofInt (-1))]) E b_c10_copy_14_1 rfl ?_
      have e : res = (Int32.ofInt (-1), s0) := g_inj hF
      subst e
      exact j_iret E hQ d_c10_copy_15 (fun _ h => h)
theorem b_c10_whyNotOn_0_1 : bdec cX10_whyNotOn 0 [.iload_n 1] = true := by decide +kernel
theorem d_c10_whyNotOn_1 : decode cX10_whyNotOn 1 = .ok (.invokestatic 211, 3) := by decide +kernel
theorem d_c10_whyNotOn_4 : decode cX10_whyNotOn 4 = .ok (.ifCond .ne 5, 3) := by decide +kernel
theorem b_c10_whyNotOn_9_2 : bdec cX10_whyNotOn 9 [.aload_n 0, .iload_n 1] = true := by decide +kernel
theorem d_c10_whyNotOn_11 : decode cX10_whyNotOn 11 = .ok (.invokevirtual 247, 3) := by decide +kernel
theorem d_c10_whyNotOn_14 : decode cX10_whyNotOn 14 = .ok (.ifCond .eq 8, 3) := by decide +kernel
theorem b_c10_whyNotOn_22_1 : bdec cX10_whyNotOn 22 [.bipush (-12)] = true := by decide +kernel
theorem d_c10_whyNotOn_24 : decode cX10_whyNotOn 24 = .ok (.ireturn, 1) := by decide +kernel
theorem b_c10_whyNotOn_17_1 : bdec cX10_whyNotOn 17 [.bipush (-11)] = true := by decide +kernel
theorem d_c10_whyNotOn_19 : decode cX10_whyNotOn 19 = .ok (.goto 5, 3) := by decide +kernel
theorem b_c10_whyNotOn_7_1 : bdec cX10_whyNotOn 7 [.iconst (-1)] = true := by decide +kernel
theorem d_c10_whyNotOn_8 : decode cX10_whyNotOn 8 = .ok (.ireturn, 1) := by decide +kernel
def f10_whyNotOn (s0 : HM) (a0 : Nat) (p1 : Int32) : Option (Int32) := obd (f10_isShelf p1) (fun v2 => if v2 = 0 then (some (Int32.ofInt (-1))) else (ocl s0 a0 10 (obd (f10_isBare s0 a0 p1) (fun v5 => if v5 = 0 then (some ((Int8.ofInt (-12)).toInt32)) else (some ((Int8.ofInt (-11)).toInt32))))))
set_option maxRecDepth 100000 in
set_option maxHeartbeats 4000000 in
theorem c10_whyNotOn (l : Launch) (κ : KP) (A : Nat → Prop) (s0 : HM) (a0 : Nat) (p1 : Int32) {res : Int32} (hF : f10_whyNotOn s0 a0 p1 = some res) : Met l yX10_whyNotOn (Cond.code yX10_whyNotOn cX10_whyNotOn 2 (some .int) :: WT) (rmL 3 0 0) (PP κ A [.ref a0, .int p1] (HS κ A s0)) (QQ (some (.int res)) (HS κ A s0) A) 0 0 A := by
  refine met_of (own := RX10) (by decide) rfl (Nat.le_of_ble_eq_true rfl) ?_
  intro Γ E hQ hL hR hA hent hini
  have hAA : ∀ q, A q → jA Γ q := fun q h => by rw [hA]; exact h
  have hroom : ∀ (d mL : Nat) {mc ms : Nat}, d < 3 → mL ≤ 21 → (rmL d mc ms).frames + 1 ≤ (jR Γ).frames ∧ 8 + (mL + 11) + (rmL d mc ms).locals ≤ (jR Γ).locals := fun d mL mc ms h1 h2 => by rw [hR]; exact rmL_le h1 h2
  show J Γ 2 (HS κ A s0) 0 0 0 [(0, .ref a0), (1, .int p1)] []
  unfold f10_whyNotOn at hF
  refine j_blk (pc' := 1) (lv' := [(0, .ref a0), (1, .int p1)]) (st' := [.int p1]) E b_c10_whyNotOn_0_1 rfl ?_
  replace hF := obd_at hF
  obtain ⟨v2, he1, hF⟩ := hF
  refine j_calls [.int p1] [] E w_RX10_211 (hroom 0 1 (by decide) (by decide)) hAA (c10_isShelf _ κ A (HS κ A s0) _  he1) (fun _ h => h) (fun _ _ _ h _ _ => h) rfl rfl (Nat.le_of_ble_eq_true rfl) d_c10_whyNotOn_1 ⟨Nat.zero_le _, Nat.zero_le _⟩ ?_
  refine j_if_ne (tgt := 9) E d_c10_whyNotOn_4 (by decide) (fun h3 => ?_) (fun h3 => ?_)
  · replace hF := g_f hF h3
    refine j_blk (pc' := 11) (lv' := [(0, .ref a0), (1, .int p1)]) (st' := [.int p1, .ref a0]) E b_c10_whyNotOn_9_2 rfl ?_
    replace hF := ocl_at hF
    obtain ⟨hc, hF⟩ := hF
    replace hF := obd_at hF
    obtain ⟨v5, he4, hF⟩ := hF
    refine j_callv [.int p1] [] E w_RX10_247 (hroom 2 2 (by decide) (by decide)) hAA (c10_isBare _ κ A _ _ _  he4) (fun _ h => h) (fun _ _ _ h _ _ => h) (fun _ h => j_recv E h hc rfl) rfl rfl (Nat.le_of_ble_eq_true rfl) d_c10_whyNotOn_11 ⟨Nat.zero_le _, Nat.zero_le _⟩ ?_
    refine j_if_eq (tgt := 22) E d_c10_whyNotOn_14 (by decide) (fun h6 => ?_) (fun h6 => ?_)
    · replace hF := g_t hF h6
      refine j_blk (pc' := 24) (lv' := [(0, .ref a0), (1, .int p1)]) (st' := [.int ((Int8.ofInt (-12)).toInt32)]) E b_c10_whyNotOn_22_1 rfl ?_
      have e : res = (Int8.ofInt (-12)).toInt32 := g_inj hF
      subst e
      exact j_iret E hQ d_c10_whyNotOn_24 (fun _ h => h)
    · replace hF := g_f hF h6
      refine j_blk (pc' := 19) (lv' := [(0, .ref a0), (1, .int p1)]) (st' := [.int ((Int8.ofInt (-11)).toInt32)]) E b_c10_whyNotOn_17_1 rfl ?_
      refine j_goto (tgt := 24) E d_c10_whyNotOn_19 (by decide) ?_
      have e : res = (Int8.ofInt (-11)).toInt32 := g_inj hF
      subst e
      exact j_iret E hQ d_c10_whyNotOn_24 (fun _ h => h)
  · replace hF := g_t hF h3
    refine j_blk (pc' := 8) (lv' := [(0, .ref a0), (1, .int p1)]) (st' := [.int (Int32.ofInt (-1))]) E b_c10_whyNotOn_7_1 rfl ?_
    have e : res = Int32.ofInt (-1) := g_inj hF
    subst e
    exact j_iret E hQ d_c10_whyNotOn_8 (fun _ h => h)
theorem b_c10_comes_0_2 : bdec cX10_comes 0 [.aload_n 0, .iload_n 1] = true := by decide +kernel
theorem d_c10_comes_2 : decode cX10_comes 2 = .ok (.invokevirtual 107, 3) := by decide +kernel
theorem b_c10_comes_5_2 : bdec cX10_comes 5 [.astore_n 2, .aload_n 2] = true := by decide +kernel
theorem d_c10_comes_7 : decode cX10_comes 7 = .ok (.ifnonnull 9, 3) := by decide +kernel
theorem b_c10_comes_10_2 : bdec cX10_comes 10 [.aload_n 0, .iload_n 1] = true := by decide +kernel
theorem d_c10_comes_12 : decode cX10_comes 12 = .ok (.invokevirtual 55, 3) := by decide +kernel
theorem d_c10_comes_15 : decode cX10_comes 15 = .ok (.ireturn, 1) := by decide +kernel
theorem b_c10_comes_16_1 : bdec cX10_comes 16 [.aload_n 0] = true := by decide +kernel
theorem d_c10_comes_17 : decode cX10_comes 17 = .ok (.getfield 23, 3) := by decide +kernel
theorem d_c10_comes_20 : decode cX10_comes 20 = .ok (.getfield 111, 3) := by decide +kernel
theorem b_c10_comes_23_1 : bdec cX10_comes 23 [.bipush 7] = true := by decide +kernel
theorem d_c10_comes_25 : decode cX10_comes 25 = .ok (.if_icmp .lt 6, 3) := by decide +kernel
theorem b_c10_comes_31_1 : bdec cX10_comes 31 [.aload_n 0] = true := by decide +kernel
theorem d_c10_comes_32 : decode cX10_comes 32 = .ok (.getfield 23, 3) := by decide +kernel
theorem b_c10_comes_35_1 : bdec cX10_comes 35 [.aload_n 2] = true := by decide +kernel
theorem d_c10_comes_36 : decode cX10_comes 36 = .ok (.invokevirtual 113, 3) := by decide +kernel
theorem b_c10_comes_39_1 : bdec cX10_comes 39 [.aload_n 0] = true := by decide +kernel
theorem d_c10_comes_40 : decode cX10_comes 40 = .ok (.getfield 23, 3) := by decide +kernel
theorem d_c10_comes_43 : decode cX10_comes 43 = .ok (.getfield 111, 3) := by decide +kernel
theorem b_c10_comes_46_2 : bdec cX10_comes 46 [.iconst 1, .isub] = true := by decide +kernel
theorem d_c10_comes_48 : decode cX10_comes 48 = .ok (.ireturn, 1) := by decide +kernel
theorem b_c10_comes_28_1 : bdec cX10_comes 28 [.bipush (-2)] = true := by decide +kernel
theorem d_c10_comes_30 : decode cX10_comes 30 = .ok (.ireturn, 1) := by decide +kernel
def f10_comes (s0 : HM) (a0 : Nat) (p1 : Int32) : Option (Int32 × HM) := ocl s0 a0 10 (obd (f10_personOn s0 a0 p1) (fun v2 => onl v2 (ocl s0 a0 10 (obd (f10_whyNotOn s0 a0 p1) (fun v5 => some (v5, s0)))) (fun b3 => obd (hfld s0 [10] 1 a0) (fun v6 => orf v6 (fun b7 => obd (hfi s0 [2] 2 b7) (fun v8 => if v8 < ((Int8.ofInt 7).toInt32) then (obd (hfld s0 [10] 1 a0) (fun v10 => orf v10 (fun b11 => ocl s0 b11 2 (obd (f2_seat s0 b11 b3) (fun s13 => obd (hfld s13 [10] 1 a0) (fun v14 => orf v14 (fun b15 => obd (hfi s13 [2] 2 b15) (fun v16 => some (v16 - (Int32.ofInt 1), s13))))))))) else (some ((Int8.ofInt (-2)).toInt32, s0))))))))
set_option maxRecDepth 100000 in
set_option maxHeartbeats 4000000 in
theorem c10_comes (l : Launch) (κ : KP) (A : Nat → Prop) (s0 : HM) (a0 : Nat) (p1 : Int32) {res : Int32 × HM} (hF : f10_comes s0 a0 p1 = some res) : Met l yX10_comes (Cond.code yX10_comes cX10_comes 3 (some .int) :: WT) (rmL 4 0 0) (PP κ A [.ref a0, .int p1] (HS κ A s0)) (QQ (some (.int res.1)) (HS κ A res.2) A) 0 0 A := by
  refine met_of (own := RX10) (by decide) rfl (Nat.le_of_ble_eq_true rfl) ?_
  intro Γ E hQ hL hR hA hent hini
  have hAA : ∀ q, A q → jA Γ q := fun q h => by rw [hA]; exact h
  have hroom : ∀ (d mL : Nat) {mc ms : Nat}, d < 4 → mL ≤ 21 → (rmL d mc ms).frames + 1 ≤ (jR Γ).frames ∧ 8 + (mL + 11) + (rmL d mc ms).locals ≤ (jR Γ).locals := fun d mL mc ms h1 h2 => by rw [hR]; exact rmL_le h1 h2
  show J Γ 3 (HS κ A s0) 0 0 0 [(0, .ref a0), (1, .int p1)] []
  unfold f10_comes at hF
  refine j_blk (pc' := 2) (lv' := [(0, .ref a0), (1, .int p1)]) (st' := [.int p1, .ref a0]) E b_c10_comes_0_2 rfl ?_
  replace hF := ocl_at hF
  obtain ⟨hc, hF⟩ := hF
  replace hF := obd_at hF
  obtain ⟨v2, he1, hF⟩ := hF
  refine j_callv [.int p1] [] E w_RX10_107 (hroom 1 2 (by decide) (by decide)) hAA (c10_personOn _ κ A _ _ _  he1) (fun _ h => h) (fun _ _ _ h _ _ => h) (fun _ h => j_recv E h hc rfl) rfl rfl (Nat.le_of_ble_eq_true rfl) d_c10_comes_2 ⟨Nat.zero_le _, Nat.zero_le _⟩ ?_
  replace hF := onl_at hF
  rcases hF with ⟨rfl, hF⟩ | ⟨b3, rfl, hF⟩
  · skip
    refine j_blk (pc' := 7) (lv' := [(2, .null), (0, .ref a0), (1, .int p1)]) (st' := [.null]) E b_c10_comes_5_2 rfl ?_
    refine j_nonnull_n E d_c10_comes_7 ?_
    refine j_blk (pc' := 12) (lv' := [(2, .null), (0, .ref a0), (1, .int p1)]) (st' := [.int p1, .ref a0]) E b_c10_comes_10_2 rfl ?_
    replace hF := ocl_at hF
    obtain ⟨hc, hF⟩ := hF
    replace hF := obd_at hF
    obtain ⟨v5, he4, hF⟩ := hF
    refine j_callv [.int p1] [] E w_RX10_55 (hroom 3 2 (by decide) (by decide)) hAA (c10_whyNotOn _ κ A _ _ _  he4) (fun _ h => h) (fun _ _ _ h _ _ => h) (fun _ h => j_recv E h hc rfl) rfl rfl (Nat.le_of_ble_eq_true rfl) d_c10_comes_12 ⟨Nat.zero_le _, Nat.zero_le _⟩ ?_
    have e : res = (v5, s0) := g_inj hF
    subst e
    exact j_iret E hQ d_c10_comes_15 (fun _ h => h)
  · skip
    refine j_blk (pc' := 7) (lv' := [(2, .ref b3), (0, .ref a0), (1, .int p1)]) (st' := [.ref b3]) E b_c10_comes_5_2 rfl ?_
    refine j_nonnull_y (tgt := 16) E d_c10_comes_7 (by decide) ?_
    refine j_blk (pc' := 17) (lv' := [(2, .ref b3), (0, .ref a0), (1, .int p1)]) (st' := [.ref a0]) E b_c10_comes_16_1 rfl ?_
    replace hF := obd_at hF
    obtain ⟨v6, ev6, hF⟩ := hF
    refine j_getf E fg_RX10_23 d_c10_comes_17 ev6 ?_
    replace hF := orf_at hF
    obtain ⟨b7, rfl, hF⟩ := hF
    replace hF := obd_at hF
    obtain ⟨v8, ev8, hF⟩ := hF
    refine j_getI E fg_RX10_111 d_c10_comes_20 ev8 ?_
    refine j_blk (pc' := 25) (lv' := [(2, .ref b3), (0, .ref a0), (1, .int p1)]) (st' := [.int ((Int8.ofInt 7).toInt32), .int v8]) E b_c10_comes_23_1 rfl ?_
    refine j_icmp_lt (tgt := 31) E d_c10_comes_25 (by decide) (fun h9 => ?_) (fun h9 => ?_)
    · replace hF := g_t hF h9
      refine j_blk (pc' := 32) (lv' := [(2, .ref b3), (0, .ref a0), (1, .int p1)]) (st' := [.ref a0]) E b_c10_comes_31_1 rfl ?_
      replace hF := obd_at hF
      obtain ⟨v10, ev10, hF⟩ := hF
      refine j_getf E fg_RX10_23 d_c10_comes_32 ev10 ?_
      refine j_blk (pc' := 36) (lv' := [(2, .ref b3), (0, .ref a0), (1, .int p1)]) (st' := [.ref b3, v10]) E b_c10_comes_35_1 rfl ?_
      replace hF := orf_at hF
      obtain ⟨b11, rfl, hF⟩ := hF
      replace hF := ocl_at hF
      obtain ⟨hc, hF⟩ := hF
      replace hF := obd_at hF
      obtain ⟨s13, he12, hF⟩ := hF
      refine j_callv [.ref b3] [] E w_RX10_113 (hroom 0 3 (by decide) (by decide)) hAA (c2_seat _ κ A _ _ _  he12) (fun _ h => h) (fun _ _ _ h _ _ => h) (fun _ h => j_recv E h hc rfl) rfl rfl (Nat.le_of_ble_eq_true rfl) d_c10_comes_36 ⟨Nat.zero_le _, Nat.zero_le _⟩ ?_
      refine j_blk (pc' := 40) (lv' := [(2, .ref b3), (0, .ref a0), (1, .int p1)]) (st' := [.ref a0]) E b_c10_comes_39_1 rfl ?_
      replace hF := obd_at hF
      obtain ⟨v14, ev14, hF⟩ := hF
      refine j_getf E fg_RX10_23 d_c10_comes_40 ev14 ?_
      replace hF := orf_at hF
      obtain ⟨b15, rfl, hF⟩ := hF
      replace hF := obd_at hF
      obtain ⟨v16, ev16, hF⟩ := hF
      refine j_getI E fg_RX10_111 d_c10_comes_43 ev16 ?_
      refine j_blk (pc' := 48) (lv' := [(2, .ref b3), (0, .ref a0), (1, .int p1)]) (st' := [.int (v16 - (Int32.ofInt 1))]) E b_c10_comes_46_2 rfl ?_
      have e : res = (v16 - (Int32.ofInt 1), s13) := g_inj hF
      subst e
      exact j_iret E hQ d_c10_comes_48 (fun _ h => h)
    · replace hF := g_f hF h9
      refine j_blk (pc' := 30) (lv' := [(2, .ref b3), (0, .ref a0), (1, .int p1)]) (st' := [.int ((Int8.ofInt (-2)).toInt32)]) E b_c10_comes_28_1 rfl ?_
      have e : res = ((Int8.ofInt (-2)).toInt32, s0) := g_inj hF
      subst e
      exact j_iret E hQ d_c10_comes_30 (fun _ h => h)
theorem b_c10_orphans_0_1 : bdec cX10_orphans 0 [.iload_n 1] = true := by decide +kernel
theorem d_c10_orphans_1 : decode cX10_orphans 1 = .ok (.lookupswitch 43 #[(0, 27), (1, 35)], 27) := by decide +kernel
theorem b_c10_orphans_28_1 : bdec cX10_orphans 28 [.aload_n 0] = true := by decide +kernel
theorem d_c10_orphans_29 : decode cX10_orphans 29 = .ok (.getfield 23, 3) := by decide +kernel
theorem d_c10_orphans_32 : decode cX10_orphans 32 = .ok (.invokevirtual 141, 3) := by decide +kernel
theorem d_c10_orphans_35 : decode cX10_orphans 35 = .ok (.ireturn, 1) := by decide +kernel
theorem b_c10_orphans_36_1 : bdec cX10_orphans 36 [.aload_n 0] = true := by decide +kernel
theorem d_c10_orphans_37 : decode cX10_orphans 37 = .ok (.getfield 23, 3) := by decide +kernel
theorem d_c10_orphans_40 : decode cX10_orphans 40 = .ok (.invokevirtual 144, 3) := by decide +kernel
theorem d_c10_orphans_43 : decode cX10_orphans 43 = .ok (.ireturn, 1) := by decide +kernel
theorem b_c10_orphans_44_1 : bdec cX10_orphans 44 [.iconst (-1)] = true := by decide +kernel
theorem d_c10_orphans_45 : decode cX10_orphans 45 = .ok (.ireturn, 1) := by decide +kernel
def f10_orphans (s0 : HM) (a0 : Nat) (p1 : Int32) : Option (Int32) := if p1 = 0 then (obd (hfld s0 [10] 1 a0) (fun v2 => orf v2 (fun b3 => ocl s0 b3 2 (obd (f2_orphanPairs s0 b3) (fun v5 => some v5))))) else (if p1 = 1 then (obd (hfld s0 [10] 1 a0) (fun v7 => orf v7 (fun b8 => ocl s0 b8 2 (obd (f2_firstOrphanPair s0 b8) (fun v10 => some v10))))) else (some (Int32.ofInt (-1))))
set_option maxRecDepth 100000 in
set_option maxHeartbeats 4000000 in
theorem c10_orphans (l : Launch) (κ : KP) (A : Nat → Prop) (s0 : HM) (a0 : Nat) (p1 : Int32) {res : Int32} (hF : f10_orphans s0 a0 p1 = some res) : Met l yX10_orphans (Cond.code yX10_orphans cX10_orphans 2 (some .int) :: WT) (rmL 4 0 0) (PP κ A [.ref a0, .int p1] (HS κ A s0)) (QQ (some (.int res)) (HS κ A s0) A) 0 0 A := by
  refine met_of (own := RX10) (by decide) rfl (Nat.le_of_ble_eq_true rfl) ?_
  intro Γ E hQ hL hR hA hent hini
  have hAA : ∀ q, A q → jA Γ q := fun q h => by rw [hA]; exact h
  have hroom : ∀ (d mL : Nat) {mc ms : Nat}, d < 4 → mL ≤ 21 → (rmL d mc ms).frames + 1 ≤ (jR Γ).frames ∧ 8 + (mL + 11) + (rmL d mc ms).locals ≤ (jR Γ).locals := fun d mL mc ms h1 h2 => by rw [hR]; exact rmL_le h1 h2
  show J Γ 2 (HS κ A s0) 0 0 0 [(0, .ref a0), (1, .int p1)] []
  unfold f10_orphans at hF
  refine j_blk (pc' := 1) (lv' := [(0, .ref a0), (1, .int p1)]) (st' := [.int p1]) E b_c10_orphans_0_1 rfl ?_
  rcases Decidable.em (p1 = 0) with h1 | h1
  · replace hF := g_t hF h1
    refine j_lkp (tgt := 28) (off := 27) E d_c10_orphans_1 (by decide) (by rw [h1]; decide) (by decide) ?_
    refine j_blk (pc' := 29) (lv' := [(0, .ref a0), (1, .int p1)]) (st' := [.ref a0]) E b_c10_orphans_28_1 rfl ?_
    replace hF := obd_at hF
    obtain ⟨v2, ev2, hF⟩ := hF
    refine j_getf E fg_RX10_23 d_c10_orphans_29 ev2 ?_
    replace hF := orf_at hF
    obtain ⟨b3, rfl, hF⟩ := hF
    replace hF := ocl_at hF
    obtain ⟨hc, hF⟩ := hF
    replace hF := obd_at hF
    obtain ⟨v5, he4, hF⟩ := hF
    refine j_callv [] [] E w_RX10_141 (hroom 3 5 (by decide) (by decide)) hAA (c2_orphanPairs _ κ A _ _  he4) (fun _ h => h) (fun _ _ _ h _ _ => h) (fun _ h => j_recv E h hc rfl) rfl rfl (Nat.le_of_ble_eq_true rfl) d_c10_orphans_32 ⟨Nat.zero_le _, Nat.zero_le _⟩ ?_
    have e : res = v5 := g_inj hF
    subst e
    exact j_iret E hQ d_c10_orphans_35 (fun _ h => h)
  · replace hF := g_f hF h1
    rcases Decidable.em (p1 = 1) with h6 | h6
    · replace hF := g_t hF h6
      refine j_lkp (tgt := 36) (off := 35) E d_c10_orphans_1 (by decide) (by rw [h6]; decide) (by decide) ?_
      refine j_blk (pc' := 37) (lv' := [(0, .ref a0), (1, .int p1)]) (st' := [.ref a0]) E b_c10_orphans_36_1 rfl ?_
      replace hF := obd_at hF
      obtain ⟨v7, ev7, hF⟩ := hF
      refine j_getf E fg_RX10_23 d_c10_orphans_37 ev7 ?_
      replace hF := orf_at hF
      obtain ⟨b8, rfl, hF⟩ := hF
      replace hF := ocl_at hF
      obtain ⟨hc, hF⟩ := hF
      replace hF := obd_at hF
      obtain ⟨v10, he9, hF⟩ := hF
      refine j_callv [] [] E w_RX10_144 (hroom 3 4 (by decide) (by decide)) hAA (c2_firstOrphanPair _ κ A _ _  he9) (fun _ h => h) (fun _ _ _ h _ _ => h) (fun _ h => j_recv E h hc rfl) rfl rfl (Nat.le_of_ble_eq_true rfl) d_c10_orphans_40 ⟨Nat.zero_le _, Nat.zero_le _⟩ ?_
      have e : res = v10 := g_inj hF
      subst e
      exact j_iret E hQ d_c10_orphans_43 (fun _ h => h)
    · replace hF := g_f hF h6
      refine j_lkp (tgt := 44) (off := 43) E d_c10_orphans_1 (by decide) ((lv_osw h1 (by decide)).trans ((lv_osw h6 (by decide)).trans rfl)) (by decide) ?_
      refine j_blk (pc' := 45) (lv' := [(0, .ref a0), (1, .int p1)]) (st' := [.int (Int32.ofInt (-1))]) E b_c10_orphans_44_1 rfl ?_
      have e : res = Int32.ofInt (-1) := g_inj hF
      subst e
      exact j_iret E hQ d_c10_orphans_45 (fun _ h => h)
theorem b_c10_judge_0_2 : bdec cX10_judge 0 [.aload_n 0, .iload_n 1] = true := by decide +kernel
theorem d_c10_judge_2 : decode cX10_judge 2 = .ok (.invokevirtual 217, 3) := by decide +kernel
theorem b_c10_judge_5_2 : bdec cX10_judge 5 [.astore_n 2, .aload_n 2] = true := by decide +kernel
theorem d_c10_judge_7 : decode cX10_judge 7 = .ok (.ifnonnull 9, 3) := by decide +kernel
theorem b_c10_judge_10_2 : bdec cX10_judge 10 [.aload_n 0, .iload_n 1] = true := by decide +kernel
theorem d_c10_judge_12 : decode cX10_judge 12 = .ok (.invokevirtual 55, 3) := by decide +kernel
theorem d_c10_judge_15 : decode cX10_judge 15 = .ok (.ireturn, 1) := by decide +kernel
theorem b_c10_judge_16_1 : bdec cX10_judge 16 [.aload_n 2] = true := by decide +kernel
theorem d_c10_judge_17 : decode cX10_judge 17 = .ok (.invokevirtual 67, 3) := by decide +kernel
theorem b_c10_judge_20_1 : bdec cX10_judge 20 [.iconst 3] = true := by decide +kernel
theorem d_c10_judge_21 : decode cX10_judge 21 = .ok (.idiv, 1) := by decide +kernel
theorem b_c10_judge_22_5 : bdec cX10_judge 22 [.iconst 3, .imul, .istore_n 3, .iconst 0, .istore 4] = true := by decide +kernel
theorem b_c10_judge_28_2 : bdec cX10_judge 28 [.iload 4, .iload_n 3] = true := by decide +kernel
theorem d_c10_judge_31 : decode cX10_judge 31 = .ok (.if_icmp .ge 51, 3) := by decide +kernel
theorem b_c10_judge_34_1 : bdec cX10_judge 34 [.aload_n 0] = true := by decide +kernel
theorem d_c10_judge_35 : decode cX10_judge 35 = .ok (.getfield 23, 3) := by decide +kernel
theorem b_c10_judge_38_2 : bdec cX10_judge 38 [.aload_n 2, .iload 4] = true := by decide +kernel
theorem d_c10_judge_41 : decode cX10_judge 41 = .ok (.invokevirtual 71, 3) := by decide +kernel
theorem b_c10_judge_44_4 : bdec cX10_judge 44 [.aload_n 2, .iload 4, .iconst 1, .iadd] = true := by decide +kernel
theorem d_c10_judge_49 : decode cX10_judge 49 = .ok (.invokevirtual 71, 3) := by decide +kernel
theorem b_c10_judge_52_4 : bdec cX10_judge 52 [.aload_n 2, .iload 4, .iconst 2, .iadd] = true := by decide +kernel
theorem d_c10_judge_57 : decode cX10_judge 57 = .ok (.invokevirtual 71, 3) := by decide +kernel
theorem d_c10_judge_60 : decode cX10_judge 60 = .ok (.invokevirtual 220, 3) := by decide +kernel
theorem b_c10_judge_63_2 : bdec cX10_judge 63 [.istore 5, .iload 5] = true := by decide +kernel
theorem d_c10_judge_67 : decode cX10_judge 67 = .ok (.ifCond .lt 9, 3) := by decide +kernel
theorem b_c10_judge_76_1 : bdec cX10_judge 76 [.iinc 4 3] = true := by decide +kernel
theorem d_c10_judge_79 : decode cX10_judge 79 = .ok (.goto (-51), 3) := by decide +kernel
theorem b_c10_judge_70_3 : bdec cX10_judge 70 [.iload 4, .iload 5, .iadd] = true := by decide +kernel
theorem d_c10_judge_75 : decode cX10_judge 75 = .ok (.ireturn, 1) := by decide +kernel
theorem b_c10_judge_82_2 : bdec cX10_judge 82 [.iload_n 3, .aload_n 2] = true := by decide +kernel
theorem d_c10_judge_84 : decode cX10_judge 84 = .ok (.invokevirtual 67, 3) := by decide +kernel
theorem d_c10_judge_87 : decode cX10_judge 87 = .ok (.if_icmp .ge 7, 3) := by decide +kernel
theorem b_c10_judge_94_1 : bdec cX10_judge 94 [.bipush (-4)] = true := by decide +kernel
theorem d_c10_judge_96 : decode cX10_judge 96 = .ok (.ireturn, 1) := by decide +kernel
theorem b_c10_judge_90_1 : bdec cX10_judge 90 [.iload_n 3] = true := by decide +kernel
theorem d_c10_judge_91 : decode cX10_judge 91 = .ok (.goto 5, 3) := by decide +kernel
def f10_judge_L28 (s0 : HM) (a0 : Nat) (b3 : Nat) (c28_3 : Int32) (w : Int32) : Option ((Int32) ⊕ ((Int32) ⊕ (Unit))) := match w with
  | x28_4 => if c28_3 ≤ x28_4 then (some (.inr (.inr ()))) else (obd (hfld s0 [10] 1 a0) (fun v10 => orf v10 (fun b11 => ocl s0 b3 8 (obd (f8_at s0 b3 x28_4) (fun v13 => ocl s0 b3 8 (obd (f8_at s0 b3 (x28_4 + (Int32.ofInt 1))) (fun v15 => ocl s0 b3 8 (obd (f8_at s0 b3 (x28_4 + (Int32.ofInt 2))) (fun v17 => ocl s0 b11 2 (obd (f2_wrongOfThree s0 b11 v13 v15 v17) (fun v19 => if v19 < 0 then (some (.inl (x28_4 + Int32.ofInt 3))) else (some (.inr (.inl (x28_4 + v19)))))))))))))))
def f10_judge (s0 : HM) (a0 : Nat) (p1 : Int32) : Option (Int32) := ocl s0 a0 10 (obd (f10_rowOn s0 a0 p1) (fun v2 => onl v2 (ocl s0 a0 10 (obd (f10_whyNotOn s0 a0 p1) (fun v5 => some v5))) (fun b3 => ocl s0 b3 8 (obd (f8_size s0 b3) (fun v7 => onz (Int32.ofInt 3) (obd (iter (f10_judge_L28 s0 a0 b3 ((v7 / (Int32.ofInt 3)) * (Int32.ofInt 3))) FU (Int32.ofInt 0)) (fun o8 => osm o8 (fun o8 => some o8) (fun o8 => ocl s0 b3 8 (obd (f8_size s0 b3) (fun v22 => if v22 ≤ ((v7 / (Int32.ofInt 3)) * (Int32.ofInt 3)) then (some ((Int8.ofInt (-4)).toInt32)) else (some ((v7 / (Int32.ofInt 3)) * (Int32.ofInt 3)))))))))))))
set_option maxRecDepth 100000 in
set_option maxHeartbeats 4000000 in
theorem c10_judge (l : Launch) (κ : KP) (A : Nat → Prop) (s0 : HM) (a0 : Nat) (p1 : Int32) {res : Int32} (hF : f10_judge s0 a0 p1 = some res) : Met l yX10_judge (Cond.code yX10_judge cX10_judge 6 (some .int) :: WT) (rmL 4 0 0) (PP κ A [.ref a0, .int p1] (HS κ A s0)) (QQ (some (.int res)) (HS κ A s0) A) 0 0 A := by
  refine met_of (own := RX10) (by decide) rfl (Nat.le_of_ble_eq_true rfl) ?_
  intro Γ E hQ hL hR hA hent hini
  have hAA : ∀ q, A q → jA Γ q := fun q h => by rw [hA]; exact h
  have hroom : ∀ (d mL : Nat) {mc ms : Nat}, d < 4 → mL ≤ 21 → (rmL d mc ms).frames + 1 ≤ (jR Γ).frames ∧ 8 + (mL + 11) + (rmL d mc ms).locals ≤ (jR Γ).locals := fun d mL mc ms h1 h2 => by rw [hR]; exact rmL_le h1 h2
  show J Γ 6 (HS κ A s0) 0 0 0 [(0, .ref a0), (1, .int p1)] []
  unfold f10_judge at hF
  refine j_blk (pc' := 2) (lv' := [(0, .ref a0), (1, .int p1)]) (st' := [.int p1, .ref a0]) E b_c10_judge_0_2 rfl ?_
  replace hF := ocl_at hF
  obtain ⟨hc, hF⟩ := hF
  replace hF := obd_at hF
  obtain ⟨v2, he1, hF⟩ := hF
  refine j_callv [.int p1] [] E w_RX10_217 (hroom 1 2 (by decide) (by decide)) hAA (c10_rowOn _ κ A _ _ _  he1) (fun _ h => h) (fun _ _ _ h _ _ => h) (fun _ h => j_recv E h hc rfl) rfl rfl (Nat.le_of_ble_eq_true rfl) d_c10_judge_2 ⟨Nat.zero_le _, Nat.zero_le _⟩ ?_
  replace hF := onl_at hF
  rcases hF with ⟨rfl, hF⟩ | ⟨b3, rfl, hF⟩
  · skip
    refine j_blk (pc' := 7) (lv' := [(2, .null), (0, .ref a0), (1, .int p1)]) (st' := [.null]) E b_c10_judge_5_2 rfl ?_
    refine j_nonnull_n E d_c10_judge_7 ?_
    refine j_blk (pc' := 12) (lv' := [(2, .null), (0, .ref a0), (1, .int p1)]) (st' := [.int p1, .ref a0]) E b_c10_judge_10_2 rfl ?_
    replace hF := ocl_at hF
    obtain ⟨hc, hF⟩ := hF
    replace hF := obd_at hF
    obtain ⟨v5, he4, hF⟩ := hF
    refine j_callv [.int p1] [] E w_RX10_55 (hroom 3 2 (by decide) (by decide)) hAA (c10_whyNotOn _ κ A _ _ _  he4) (fun _ h => h) (fun _ _ _ h _ _ => h) (fun _ h => j_recv E h hc rfl) rfl rfl (Nat.le_of_ble_eq_true rfl) d_c10_judge_12 ⟨Nat.zero_le _, Nat.zero_le _⟩ ?_
    have e : res = v5 := g_inj hF
    subst e
    exact j_iret E hQ d_c10_judge_15 (fun _ h => h)
  · skip
    refine j_blk (pc' := 7) (lv' := [(2, .ref b3), (0, .ref a0), (1, .int p1)]) (st' := [.ref b3]) E b_c10_judge_5_2 rfl ?_
    refine j_nonnull_y (tgt := 16) E d_c10_judge_7 (by decide) ?_
    refine j_blk (pc' := 17) (lv' := [(2, .ref b3), (0, .ref a0), (1, .int p1)]) (st' := [.ref b3]) E b_c10_judge_16_1 rfl ?_
    replace hF := ocl_at hF
    obtain ⟨hc, hF⟩ := hF
    replace hF := obd_at hF
    obtain ⟨v7, he6, hF⟩ := hF
    refine j_callv [] [] E w_RX10_67 (hroom 0 1 (by decide) (by decide)) hAA (c8_size _ κ A _ _  he6) (fun _ h => h) (fun _ _ _ h _ _ => h) (fun _ h => j_recv E h hc rfl) rfl rfl (Nat.le_of_ble_eq_true rfl) d_c10_judge_17 ⟨Nat.zero_le _, Nat.zero_le _⟩ ?_
    refine j_blk (pc' := 21) (lv' := [(2, .ref b3), (0, .ref a0), (1, .int p1)]) (st' := [.int (Int32.ofInt 3), .int v7]) E b_c10_judge_20_1 rfl ?_
    replace hF := onz_at hF
    obtain ⟨h0, hF⟩ := hF
    refine j_idiv E d_c10_judge_21 h0 ?_
    refine j_blk (pc' := 28) (lv' := [(4, .int (Int32.ofInt 0)), (3, .int ((v7 / (Int32.ofInt 3)) * (Int32.ofInt 3))), (2, .ref b3), (0, .ref a0), (1, .int p1)]) (st' := []) E b_c10_judge_22_5 rfl ?_
    refine j_lv [3, 2, 1, 0] rfl ?_
    replace hF := obd_at hF
    obtain ⟨o8, ho8, hF⟩ := hF
    have lpo8 : ∀ (c28_3 : Int32), ∀ (fu : Nat) (w : Int32) (o : (Int32) ⊕ (Unit)), iter (f10_judge_L28 s0 a0 b3 c28_3) fu w = some o → (fun (o : (Int32) ⊕ (Unit)) => match o with | .inl r => r = res | .inr o => J Γ 6 (HS κ A s0) 0 0 82 [(2, .ref b3), (3, .int c28_3)] []) o → (fun (w : Int32) => J Γ 6 (HS κ A s0) 0 0 28 [(0, .ref a0), (2, .ref b3), (3, .int c28_3), (4, .int w)] []) w := by
      intro c28_3
      refine j_iter (P := fun (w : Int32) => J Γ 6 (HS κ A s0) 0 0 28 [(0, .ref a0), (2, .ref b3), (3, .int c28_3), (4, .int w)] []) (G := fun (o : (Int32) ⊕ (Unit)) => match o with | .inl r => r = res | .inr o => J Γ 6 (HS κ A s0) 0 0 82 [(2, .ref b3), (3, .int c28_3)] []) ?_
      intro x28_4 q hF hI hO
      show J Γ 6 (HS κ A s0) 0 0 28 [(0, .ref a0), (2, .ref b3), (3, .int c28_3), (4, .int x28_4)] []
      unfold f10_judge_L28 at hF
      refine j_blk (pc' := 31) (lv' := [(0, .ref a0), (2, .ref b3), (3, .int c28_3), (4, .int x28_4)]) (st' := [.int c28_3, .int x28_4]) E b_c10_judge_28_2 rfl ?_
      refine j_icmp_ge (tgt := 82) E d_c10_judge_31 (by decide) (fun h9 => ?_) (fun h9 => ?_)
      · replace hF := g_t hF h9
        refine j_lv [1, 2] rfl ?_
        exact hO _ (g_inj hF)
      · replace hF := g_f hF h9
        refine j_blk (pc' := 35) (lv' := [(0, .ref a0), (2, .ref b3), (3, .int c28_3), (4, .int x28_4)]) (st' := [.ref a0]) E b_c10_judge_34_1 rfl ?_
        replace hF := obd_at hF
        obtain ⟨v10, ev10, hF⟩ := hF
        refine j_getf E fg_RX10_23 d_c10_judge_35 ev10 ?_
        refine j_blk (pc' := 41) (lv' := [(0, .ref a0), (2, .ref b3), (3, .int c28_3), (4, .int x28_4)]) (st' := [.int x28_4, .ref b3, v10]) E b_c10_judge_38_2 rfl ?_
        replace hF := orf_at hF
        obtain ⟨b11, rfl, hF⟩ := hF
        replace hF := ocl_at hF
        obtain ⟨hc, hF⟩ := hF
        replace hF := obd_at hF
        obtain ⟨v13, he12, hF⟩ := hF
        refine j_callv [.int x28_4] [.ref b11] E w_RX10_71 (hroom 1 2 (by decide) (by decide)) hAA (c8_at _ κ A _ _ _  he12) (fun _ h => h) (fun _ _ _ h _ _ => h) (fun _ h => j_recv E h hc rfl) rfl rfl (Nat.le_of_ble_eq_true rfl) d_c10_judge_41 ⟨Nat.zero_le _, Nat.zero_le _⟩ ?_
        refine j_blk (pc' := 49) (lv' := [(0, .ref a0), (2, .ref b3), (3, .int c28_3), (4, .int x28_4)]) (st' := [.int (x28_4 + (Int32.ofInt 1)), .ref b3, .int v13, .ref b11]) E b_c10_judge_44_4 rfl ?_
        replace hF := ocl_at hF
        obtain ⟨hc, hF⟩ := hF
        replace hF := obd_at hF
        obtain ⟨v15, he14, hF⟩ := hF
        refine j_callv [.int (x28_4 + (Int32.ofInt 1))] [.int v13, .ref b11] E w_RX10_71 (hroom 1 2 (by decide) (by decide)) hAA (c8_at _ κ A _ _ _  he14) (fun _ h => h) (fun _ _ _ h _ _ => h) (fun _ h => j_recv E h hc rfl) rfl rfl (Nat.le_of_ble_eq_true rfl) d_c10_judge_49 ⟨Nat.zero_le _, Nat.zero_le _⟩ ?_
        refine j_blk (pc' := 57) (lv' := [(0, .ref a0), (2, .ref b3), (3, .int c28_3), (4, .int x28_4)]) (st' := [.int (x28_4 + (Int32.ofInt 2)), .ref b3, .int v15, .int v13, .ref b11]) E b_c10_judge_52_4 rfl ?_
        replace hF := ocl_at hF
        obtain ⟨hc, hF⟩ := hF
        replace hF := obd_at hF
        obtain ⟨v17, he16, hF⟩ := hF
        refine j_callv [.int (x28_4 + (Int32.ofInt 2))] [.int v15, .int v13, .ref b11] E w_RX10_71 (hroom 1 2 (by decide) (by decide)) hAA (c8_at _ κ A _ _ _  he16) (fun _ h => h) (fun _ _ _ h _ _ => h) (fun _ h => j_recv E h hc rfl) rfl rfl (Nat.le_of_ble_eq_true rfl) d_c10_judge_57 ⟨Nat.zero_le _, Nat.zero_le _⟩ ?_
        replace hF := ocl_at hF
        obtain ⟨hc, hF⟩ := hF
        replace hF := obd_at hF
        obtain ⟨v19, he18, hF⟩ := hF
        refine j_callv [.int v13, .int v15, .int v17] [] E w_RX10_220 (hroom 3 4 (by decide) (by decide)) hAA (c2_wrongOfThree _ κ A _ _ _ _ _  he18) (fun _ h => h) (fun _ _ _ h _ _ => h) (fun _ h => j_recv E h hc rfl) rfl rfl (Nat.le_of_ble_eq_true rfl) d_c10_judge_60 ⟨Nat.zero_le _, Nat.zero_le _⟩ ?_
        refine j_blk (pc' := 67) (lv' := [(5, .int v19), (0, .ref a0), (2, .ref b3), (3, .int c28_3), (4, .int x28_4)]) (st' := [.int v19]) E b_c10_judge_63_2 rfl ?_
        refine j_if_lt (tgt := 76) E d_c10_judge_67 (by decide) (fun h20 => ?_) (fun h20 => ?_)
        · replace hF := g_t hF h20
          refine j_blk (pc' := 79) (lv' := [(4, .int (x28_4 + Int32.ofInt 3)), (5, .int v19), (0, .ref a0), (2, .ref b3), (3, .int c28_3)]) (st' := []) E b_c10_judge_76_1 rfl ?_
          refine j_goto (tgt := 28) E d_c10_judge_79 (by decide) ?_
          refine j_lv [2, 3, 4, 0] rfl ?_
          exact hI _ (g_inj hF)
        · replace hF := g_f hF h20
          refine j_blk (pc' := 75) (lv' := [(5, .int v19), (0, .ref a0), (2, .ref b3), (3, .int c28_3), (4, .int x28_4)]) (st' := [.int (x28_4 + v19)]) E b_c10_judge_70_3 rfl ?_
          have e : x28_4 + v19 = res := hO _ (g_inj hF)
          subst e
          exact j_iret E hQ d_c10_judge_75 (fun _ h => h)
    refine lpo8 ((v7 / (Int32.ofInt 3)) * (Int32.ofInt 3)) FU (Int32.ofInt 0) o8 ho8 ?_
    rcases o8 with o8 | o8
    · exact (g_inj hF).symm
    · skip
      show J Γ 6 (HS κ A s0) 0 0 82 [(2, .ref b3), (3, .int ((v7 / (Int32.ofInt 3)) * (Int32.ofInt 3)))] []
      refine j_blk (pc' := 84) (lv' := [(2, .ref b3), (3, .int ((v7 / (Int32.ofInt 3)) * (Int32.ofInt 3)))]) (st' := [.ref b3, .int ((v7 / (Int32.ofInt 3)) * (Int32.ofInt 3))]) E b_c10_judge_82_2 rfl ?_
      replace hF := ocl_at hF
      obtain ⟨hc, hF⟩ := hF
      replace hF := obd_at hF
      obtain ⟨v22, he21, hF⟩ := hF
      refine j_callv [] [.int ((v7 / (Int32.ofInt 3)) * (Int32.ofInt 3))] E w_RX10_67 (hroom 0 1 (by decide) (by decide)) hAA (c8_size _ κ A _ _  he21) (fun _ h => h) (fun _ _ _ h _ _ => h) (fun _ h => j_recv E h hc rfl) rfl rfl (Nat.le_of_ble_eq_true rfl) d_c10_judge_84 ⟨Nat.zero_le _, Nat.zero_le _⟩ ?_
      refine j_icmp_ge (tgt := 94) E d_c10_judge_87 (by decide) (fun h23 => ?_) (fun h23 => ?_)
      · replace hF := g_t hF h23
        refine j_blk (pc' := 96) (lv' := [(2, .ref b3), (3, .int ((v7 / (Int32.ofInt 3)) * (Int32.ofInt 3)))]) (st' := [.int ((Int8.ofInt (-4)).toInt32)]) E b_c10_judge_94_1 rfl ?_
        have e : res = (Int8.ofInt (-4)).toInt32 := g_inj hF
        subst e
        exact j_iret E hQ d_c10_judge_96 (fun _ h => h)
      · replace hF := g_f hF h23
        refine j_blk (pc' := 91) (lv' := [(2, .ref b3), (3, .int ((v7 / (Int32.ofInt 3)) * (Int32.ofInt 3)))]) (st' := [.int ((v7 / (Int32.ofInt 3)) * (Int32.ofInt 3))]) E b_c10_judge_90_1 rfl ?_
        refine j_goto (tgt := 96) E d_c10_judge_91 (by decide) ?_
        have e : res = (v7 / (Int32.ofInt 3)) * (Int32.ofInt 3) := g_inj hF
        subst e
        exact j_iret E hQ d_c10_judge_96 (fun _ h => h)
theorem b_c10_count_0_1 : bdec cX10_count 0 [.iload_n 1] = true := by decide +kernel
theorem d_c10_count_1 : decode cX10_count 1 = .ok (.tableswitch 66 0 3 #[31, 39, 47, 58], 31) := by decide +kernel
theorem b_c10_count_32_1 : bdec cX10_count 32 [.aload_n 0] = true := by decide +kernel
theorem d_c10_count_33 : decode cX10_count 33 = .ok (.getfield 23, 3) := by decide +kernel
theorem d_c10_count_36 : decode cX10_count 36 = .ok (.getfield 111, 3) := by decide +kernel
theorem d_c10_count_39 : decode cX10_count 39 = .ok (.ireturn, 1) := by decide +kernel
theorem b_c10_count_40_1 : bdec cX10_count 40 [.aload_n 0] = true := by decide +kernel
theorem d_c10_count_41 : decode cX10_count 41 = .ok (.getfield 23, 3) := by decide +kernel
theorem d_c10_count_44 : decode cX10_count 44 = .ok (.getfield 130, 3) := by decide +kernel
theorem d_c10_count_47 : decode cX10_count 47 = .ok (.ireturn, 1) := by decide +kernel
theorem b_c10_count_48_1 : bdec cX10_count 48 [.aload_n 0] = true := by decide +kernel
theorem d_c10_count_49 : decode cX10_count 49 = .ok (.getfield 23, 3) := by decide +kernel
theorem d_c10_count_52 : decode cX10_count 52 = .ok (.invokevirtual 101, 3) := by decide +kernel
theorem d_c10_count_55 : decode cX10_count 55 = .ok (.invokestatic 156, 3) := by decide +kernel
theorem d_c10_count_58 : decode cX10_count 58 = .ok (.ireturn, 1) := by decide +kernel
theorem b_c10_count_59_1 : bdec cX10_count 59 [.aload_n 0] = true := by decide +kernel
theorem d_c10_count_60 : decode cX10_count 60 = .ok (.getfield 23, 3) := by decide +kernel
theorem d_c10_count_63 : decode cX10_count 63 = .ok (.invokevirtual 223, 3) := by decide +kernel
theorem d_c10_count_66 : decode cX10_count 66 = .ok (.ireturn, 1) := by decide +kernel
theorem b_c10_count_67_1 : bdec cX10_count 67 [.iconst (-1)] = true := by decide +kernel
theorem d_c10_count_68 : decode cX10_count 68 = .ok (.ireturn, 1) := by decide +kernel
def f10_count (s0 : HM) (a0 : Nat) (p1 : Int32) : Option (Int32) := if p1 = 0 then (obd (hfld s0 [10] 1 a0) (fun v2 => orf v2 (fun b3 => obd (hfi s0 [2] 2 b3) (fun v4 => some v4)))) else (if p1 = 1 then (obd (hfld s0 [10] 1 a0) (fun v6 => orf v6 (fun b7 => obd (hfi s0 [2] 3 b7) (fun v8 => some v8)))) else (if p1 = 2 then (obd (hfld s0 [10] 1 a0) (fun v10 => orf v10 (fun b11 => ocl s0 b11 2 (obd (f2_counting s0 b11) (fun v13 => obd (fJ6_bitCount_0f7a4 v13) (fun v15 => some v15)))))) else (if p1 = 3 then (obd (hfld s0 [10] 1 a0) (fun v17 => orf v17 (fun b18 => ocl s0 b18 2 (obd (f2_allCosts s0 b18) (fun v20 => some v20))))) else (some (Int32.ofInt (-1))))))
set_option maxRecDepth 100000 in
set_option maxHeartbeats 4000000 in
theorem c10_count (l : Launch) (κ : KP) (A : Nat → Prop) (s0 : HM) (a0 : Nat) (p1 : Int32) {res : Int32} (hF : f10_count s0 a0 p1 = some res) : Met l yX10_count (Cond.code yX10_count cX10_count 2 (some .int) :: WT) (rmL 4 0 0) (PP κ A [.ref a0, .int p1] (HS κ A s0)) (QQ (some (.int res)) (HS κ A s0) A) 0 0 A := by
  refine met_of (own := RX10) (by decide) rfl (Nat.le_of_ble_eq_true rfl) ?_
  intro Γ E hQ hL hR hA hent hini
  have hAA : ∀ q, A q → jA Γ q := fun q h => by rw [hA]; exact h
  have hroom : ∀ (d mL : Nat) {mc ms : Nat}, d < 4 → mL ≤ 21 → (rmL d mc ms).frames + 1 ≤ (jR Γ).frames ∧ 8 + (mL + 11) + (rmL d mc ms).locals ≤ (jR Γ).locals := fun d mL mc ms h1 h2 => by rw [hR]; exact rmL_le h1 h2
  show J Γ 2 (HS κ A s0) 0 0 0 [(0, .ref a0), (1, .int p1)] []
  unfold f10_count at hF
  refine j_blk (pc' := 1) (lv' := [(0, .ref a0), (1, .int p1)]) (st' := [.int p1]) E b_c10_count_0_1 rfl ?_
  rcases Decidable.em (p1 = 0) with h1 | h1
  · replace hF := g_t hF h1
    refine j_tin (tgt := 32) (off := 31) E d_c10_count_1 h1 (by decide) (by decide) (by decide) (by decide) ?_
    refine j_blk (pc' := 33) (lv' := [(0, .ref a0), (1, .int p1)]) (st' := [.ref a0]) E b_c10_count_32_1 rfl ?_
    replace hF := obd_at hF
    obtain ⟨v2, ev2, hF⟩ := hF
    refine j_getf E fg_RX10_23 d_c10_count_33 ev2 ?_
    replace hF := orf_at hF
    obtain ⟨b3, rfl, hF⟩ := hF
    replace hF := obd_at hF
    obtain ⟨v4, ev4, hF⟩ := hF
    refine j_getI E fg_RX10_111 d_c10_count_36 ev4 ?_
    have e : res = v4 := g_inj hF
    subst e
    exact j_iret E hQ d_c10_count_39 (fun _ h => h)
  · replace hF := g_f hF h1
    rcases Decidable.em (p1 = 1) with h5 | h5
    · replace hF := g_t hF h5
      refine j_tin (tgt := 40) (off := 39) E d_c10_count_1 h5 (by decide) (by decide) (by decide) (by decide) ?_
      refine j_blk (pc' := 41) (lv' := [(0, .ref a0), (1, .int p1)]) (st' := [.ref a0]) E b_c10_count_40_1 rfl ?_
      replace hF := obd_at hF
      obtain ⟨v6, ev6, hF⟩ := hF
      refine j_getf E fg_RX10_23 d_c10_count_41 ev6 ?_
      replace hF := orf_at hF
      obtain ⟨b7, rfl, hF⟩ := hF
      replace hF := obd_at hF
      obtain ⟨v8, ev8, hF⟩ := hF
      refine j_getI E fg_RX10_130 d_c10_count_44 ev8 ?_
      have e : res = v8 := g_inj hF
      subst e
      exact j_iret E hQ d_c10_count_47 (fun _ h => h)
    · replace hF := g_f hF h5
      rcases Decidable.em (p1 = 2) with h9 | h9
      · replace hF := g_t hF h9
        refine j_tin (tgt := 48) (off := 47) E d_c10_count_1 h9 (by decide) (by decide) (by decide) (by decide) ?_
        refine j_blk (pc' := 49) (lv' := [(0, .ref a0), (1, .int p1)]) (st' := [.ref a0]) E b_c10_count_48_1 rfl ?_
        replace hF := obd_at hF
        obtain ⟨v10, ev10, hF⟩ := hF
        refine j_getf E fg_RX10_23 d_c10_count_49 ev10 ?_
        replace hF := orf_at hF
        obtain ⟨b11, rfl, hF⟩ := hF
        replace hF := ocl_at hF
        obtain ⟨hc, hF⟩ := hF
        replace hF := obd_at hF
        obtain ⟨v13, he12, hF⟩ := hF
        refine j_callv [] [] E w_RX10_101 (hroom 2 3 (by decide) (by decide)) hAA (c2_counting _ κ A _ _  he12) (fun _ h => h) (fun _ _ _ h _ _ => h) (fun _ h => j_recv E h hc rfl) rfl rfl (Nat.le_of_ble_eq_true rfl) d_c10_count_52 ⟨Nat.zero_le _, Nat.zero_le _⟩ ?_
        replace hF := obd_at hF
        obtain ⟨v15, he14, hF⟩ := hF
        refine j_calls [.int v13] [] E w_RX10_156 (hroom 0 1 (by decide) (by decide)) hAA (kJ6_bitCount_0f7a4 _ κ A (HS κ A s0) _  he14) (fun _ h => h) (fun _ _ _ h _ _ => h) rfl rfl (Nat.le_of_ble_eq_true rfl) d_c10_count_55 ⟨Nat.zero_le _, Nat.zero_le _⟩ ?_
        have e : res = v15 := g_inj hF
        subst e
        exact j_iret E hQ d_c10_count_58 (fun _ h => h)
      · replace hF := g_f hF h9
        rcases Decidable.em (p1 = 3) with h16 | h16
        · replace hF := g_t hF h16
          refine j_tin (tgt := 59) (off := 58) E d_c10_count_1 h16 (by decide) (by decide) (by decide) (by decide) ?_
          refine j_blk (pc' := 60) (lv' := [(0, .ref a0), (1, .int p1)]) (st' := [.ref a0]) E b_c10_count_59_1 rfl ?_
          replace hF := obd_at hF
          obtain ⟨v17, ev17, hF⟩ := hF
          refine j_getf E fg_RX10_23 d_c10_count_60 ev17 ?_
          replace hF := orf_at hF
          obtain ⟨b18, rfl, hF⟩ := hF
          replace hF := ocl_at hF
          obtain ⟨hc, hF⟩ := hF
          replace hF := obd_at hF
          obtain ⟨v20, he19, hF⟩ := hF
          refine j_callv [] [] E w_RX10_223 (hroom 3 3 (by decide) (by decide)) hAA (c2_allCosts _ κ A _ _  he19) (fun _ h => h) (fun _ _ _ h _ _ => h) (fun _ h => j_recv E h hc rfl) rfl rfl (Nat.le_of_ble_eq_true rfl) d_c10_count_63 ⟨Nat.zero_le _, Nat.zero_le _⟩ ?_
          have e : res = v20 := g_inj hF
          subst e
          exact j_iret E hQ d_c10_count_66 (fun _ h => h)
        · replace hF := g_f hF h16
          have h1 := lv_neT h1 (a := 0) (by decide)
          have h5 := lv_neT h5 (a := 1) (by decide)
          have h9 := lv_neT h9 (a := 2) (by decide)
          have h16 := lv_neT h16 (a := 3) (by decide)
          refine j_tout (tgt := 67) E d_c10_count_1 (by omega) (by decide) ?_
          refine j_blk (pc' := 68) (lv' := [(0, .ref a0), (1, .int p1)]) (st' := [.int (Int32.ofInt (-1))]) E b_c10_count_67_1 rfl ?_
          have e : res = Int32.ofInt (-1) := g_inj hF
          subst e
          exact j_iret E hQ d_c10_count_68 (fun _ h => h)
theorem b_c10_put_0_2 : bdec cX10_put 0 [.aload_n 0, .iload_n 1] = true := by decide +kernel
theorem d_c10_put_2 : decode cX10_put 2 = .ok (.invokevirtual 217, 3) := by decide +kernel
theorem b_c10_put_5_2 : bdec cX10_put 5 [.astore 4, .aload 4] = true := by decide +kernel
theorem d_c10_put_9 : decode cX10_put 9 = .ok (.ifnonnull 9, 3) := by decide +kernel
theorem b_c10_put_12_2 : bdec cX10_put 12 [.aload_n 0, .iload_n 1] = true := by decide +kernel
theorem d_c10_put_14 : decode cX10_put 14 = .ok (.invokevirtual 55, 3) := by decide +kernel
theorem d_c10_put_17 : decode cX10_put 17 = .ok (.ireturn, 1) := by decide +kernel
theorem b_c10_put_18_3 : bdec cX10_put 18 [.aload 4, .iload_n 2, .iconst 1] = true := by decide +kernel
theorem d_c10_put_22 : decode cX10_put 22 = .ok (.invokevirtual 229, 3) := by decide +kernel
theorem d_c10_put_25 : decode cX10_put 25 = .ok (.ifCond .ne 6, 3) := by decide +kernel
theorem b_c10_put_31_3 : bdec cX10_put 31 [.aload 4, .iload_n 2, .iload_n 3] = true := by decide +kernel
theorem d_c10_put_35 : decode cX10_put 35 = .ok (.invokevirtual 232, 3) := by decide +kernel
theorem b_c10_put_38_1 : bdec cX10_put 38 [.iconst 0] = true := by decide +kernel
theorem d_c10_put_39 : decode cX10_put 39 = .ok (.ireturn, 1) := by decide +kernel
theorem b_c10_put_28_1 : bdec cX10_put 28 [.bipush (-13)] = true := by decide +kernel
theorem d_c10_put_30 : decode cX10_put 30 = .ok (.ireturn, 1) := by decide +kernel
def f10_put (s0 : HM) (a0 : Nat) (p1 : Int32) (p2 : Int32) (p3 : Int32) : Option (Int32 × HM) := ocl s0 a0 10 (obd (f10_rowOn s0 a0 p1) (fun v2 => onl v2 (ocl s0 a0 10 (obd (f10_whyNotOn s0 a0 p1) (fun v5 => some (v5, s0)))) (fun b3 => ocl s0 b3 8 (obd (f8_hasPlaces s0 b3 p2 (Int32.ofInt 1)) (fun v7 => if v7 = 0 then (some ((Int8.ofInt (-13)).toInt32, s0)) else (ocl s0 b3 8 (obd (f8_change s0 b3 p2 p3) (fun s10 => some (Int32.ofInt 0, s10)))))))))
set_option maxRecDepth 100000 in
set_option maxHeartbeats 4000000 in
theorem c10_put (l : Launch) (κ : KP) (A : Nat → Prop) (s0 : HM) (a0 : Nat) (p1 : Int32) (p2 : Int32) (p3 : Int32) {res : Int32 × HM} (hF : f10_put s0 a0 p1 p2 p3 = some res) : Met l yX10_put (Cond.code yX10_put cX10_put 5 (some .int) :: WT) (rmL 4 0 0) (PP κ A [.ref a0, .int p1, .int p2, .int p3] (HS κ A s0)) (QQ (some (.int res.1)) (HS κ A res.2) A) 0 0 A := by
  refine met_of (own := RX10) (by decide) rfl (Nat.le_of_ble_eq_true rfl) ?_
  intro Γ E hQ hL hR hA hent hini
  have hAA : ∀ q, A q → jA Γ q := fun q h => by rw [hA]; exact h
  have hroom : ∀ (d mL : Nat) {mc ms : Nat}, d < 4 → mL ≤ 21 → (rmL d mc ms).frames + 1 ≤ (jR Γ).frames ∧ 8 + (mL + 11) + (rmL d mc ms).locals ≤ (jR Γ).locals := fun d mL mc ms h1 h2 => by rw [hR]; exact rmL_le h1 h2
  show J Γ 5 (HS κ A s0) 0 0 0 [(0, .ref a0), (1, .int p1), (2, .int p2), (3, .int p3)] []
  unfold f10_put at hF
  refine j_blk (pc' := 2) (lv' := [(0, .ref a0), (1, .int p1), (2, .int p2), (3, .int p3)]) (st' := [.int p1, .ref a0]) E b_c10_put_0_2 rfl ?_
  replace hF := ocl_at hF
  obtain ⟨hc, hF⟩ := hF
  replace hF := obd_at hF
  obtain ⟨v2, he1, hF⟩ := hF
  refine j_callv [.int p1] [] E w_RX10_217 (hroom 1 2 (by decide) (by decide)) hAA (c10_rowOn _ κ A _ _ _  he1) (fun _ h => h) (fun _ _ _ h _ _ => h) (fun _ h => j_recv E h hc rfl) rfl rfl (Nat.le_of_ble_eq_true rfl) d_c10_put_2 ⟨Nat.zero_le _, Nat.zero_le _⟩ ?_
  replace hF := onl_at hF
  rcases hF with ⟨rfl, hF⟩ | ⟨b3, rfl, hF⟩
  · skip
    refine j_blk (pc' := 9) (lv' := [(4, .null), (0, .ref a0), (1, .int p1), (2, .int p2), (3, .int p3)]) (st' := [.null]) E b_c10_put_5_2 rfl ?_
    refine j_nonnull_n E d_c10_put_9 ?_
    refine j_blk (pc' := 14) (lv' := [(4, .null), (0, .ref a0), (1, .int p1), (2, .int p2), (3, .int p3)]) (st' := [.int p1, .ref a0]) E b_c10_put_12_2 rfl ?_
    replace hF := ocl_at hF
    obtain ⟨hc, hF⟩ := hF
    replace hF := obd_at hF
    obtain ⟨v5, he4, hF⟩ := hF
    refine j_callv [.int p1] [] E w_RX10_55 (hroom 3 2 (by decide) (by decide)) hAA (c10_whyNotOn _ κ A _ _ _  he4) (fun _ h => h) (fun _ _ _ h _ _ => h) (fun _ h => j_recv E h hc rfl) rfl rfl (Nat.le_of_ble_eq_true rfl) d_c10_put_14 ⟨Nat.zero_le _, Nat.zero_le _⟩ ?_
    have e : res = (v5, s0) := g_inj hF
    subst e
    exact j_iret E hQ d_c10_put_17 (fun _ h => h)
  · skip
    refine j_blk (pc' := 9) (lv' := [(4, .ref b3), (0, .ref a0), (1, .int p1), (2, .int p2), (3, .int p3)]) (st' := [.ref b3]) E b_c10_put_5_2 rfl ?_
    refine j_nonnull_y (tgt := 18) E d_c10_put_9 (by decide) ?_
    refine j_blk (pc' := 22) (lv' := [(4, .ref b3), (0, .ref a0), (1, .int p1), (2, .int p2), (3, .int p3)]) (st' := [.int (Int32.ofInt 1), .int p2, .ref b3]) E b_c10_put_18_3 rfl ?_
    replace hF := ocl_at hF
    obtain ⟨hc, hF⟩ := hF
    replace hF := obd_at hF
    obtain ⟨v7, he6, hF⟩ := hF
    refine j_callv [.int p2, .int (Int32.ofInt 1)] [] E w_RX10_229 (hroom 0 3 (by decide) (by decide)) hAA (c8_hasPlaces _ κ A _ _ _ _  he6) (fun _ h => h) (fun _ _ _ h _ _ => h) (fun _ h => j_recv E h hc rfl) rfl rfl (Nat.le_of_ble_eq_true rfl) d_c10_put_22 ⟨Nat.zero_le _, Nat.zero_le _⟩ ?_
    refine j_if_ne (tgt := 31) E d_c10_put_25 (by decide) (fun h8 => ?_) (fun h8 => ?_)
    · replace hF := g_f hF h8
      refine j_blk (pc' := 35) (lv' := [(4, .ref b3), (0, .ref a0), (1, .int p1), (2, .int p2), (3, .int p3)]) (st' := [.int p3, .int p2, .ref b3]) E b_c10_put_31_3 rfl ?_
      replace hF := ocl_at hF
      obtain ⟨hc, hF⟩ := hF
      replace hF := obd_at hF
      obtain ⟨s10, he9, hF⟩ := hF
      refine j_callv [.int p2, .int p3] [] E w_RX10_232 (hroom 1 3 (by decide) (by decide)) hAA (c8_change _ κ A _ _ _ _  he9) (fun _ h => h) (fun _ _ _ h _ _ => h) (fun _ h => j_recv E h hc rfl) rfl rfl (Nat.le_of_ble_eq_true rfl) d_c10_put_35 ⟨Nat.zero_le _, Nat.zero_le _⟩ ?_
      refine j_blk (pc' := 39) (lv' := [(4, .ref b3), (0, .ref a0), (1, .int p1), (2, .int p2), (3, .int p3)]) (st' := [.int (Int32.ofInt 0)]) E b_c10_put_38_1 rfl ?_
      have e : res = (Int32.ofInt 0, s10) := g_inj hF
      subst e
      exact j_iret E hQ d_c10_put_39 (fun _ h => h)
    · replace hF := g_t hF h8
      refine j_blk (pc' := 30) (lv' := [(4, .ref b3), (0, .ref a0), (1, .int p1), (2, .int p2), (3, .int p3)]) (st' := [.int ((Int8.ofInt (-13)).toInt32)]) E b_c10_put_28_1 rfl ?_
      have e : res = ((Int8.ofInt (-13)).toInt32, s0) := g_inj hF
      subst e
      exact j_iret E hQ d_c10_put_30 (fun _ h => h)
theorem b_c10_price_0_2 : bdec cX10_price 0 [.aload_n 0, .iload_n 1] = true := by decide +kernel
theorem d_c10_price_2 : decode cX10_price 2 = .ok (.invokevirtual 107, 3) := by decide +kernel
theorem b_c10_price_5_2 : bdec cX10_price 5 [.astore_n 2, .aload_n 2] = true := by decide +kernel
theorem d_c10_price_7 : decode cX10_price 7 = .ok (.ifnonnull 11, 3) := by decide +kernel
theorem b_c10_price_10_2 : bdec cX10_price 10 [.aload_n 0, .iload_n 1] = true := by decide +kernel
theorem d_c10_price_12 : decode cX10_price 12 = .ok (.invokevirtual 55, 3) := by decide +kernel
theorem d_c10_price_15 : decode cX10_price 15 = .ok (.goto 7, 3) := by decide +kernel
theorem d_c10_price_22 : decode cX10_price 22 = .ok (.ireturn, 1) := by decide +kernel
theorem b_c10_price_18_1 : bdec cX10_price 18 [.aload_n 2] = true := by decide +kernel
theorem d_c10_price_19 : decode cX10_price 19 = .ok (.invokevirtual 104, 3) := by decide +kernel
def f10_price (s0 : HM) (a0 : Nat) (p1 : Int32) : Option (Int32) := ocl s0 a0 10 (obd (f10_personOn s0 a0 p1) (fun v2 => onl v2 (ocl s0 a0 10 (obd (f10_whyNotOn s0 a0 p1) (fun v5 => some v5))) (fun b3 => obd (v_cost s0 b3) (fun v6 => some v6))))
set_option maxRecDepth 100000 in
set_option maxHeartbeats 4000000 in
theorem c10_price (l : Launch) (κ : KP) (A : Nat → Prop) (s0 : HM) (a0 : Nat) (p1 : Int32) {res : Int32} (hF : f10_price s0 a0 p1 = some res) : Met l yX10_price (Cond.code yX10_price cX10_price 3 (some .int) :: WT) (rmL 4 0 0) (PP κ A [.ref a0, .int p1] (HS κ A s0)) (QQ (some (.int res)) (HS κ A s0) A) 0 0 A := by
  refine met_of (own := RX10) (by decide) rfl (Nat.le_of_ble_eq_true rfl) ?_
  intro Γ E hQ hL hR hA hent hini
  have hAA : ∀ q, A q → jA Γ q := fun q h => by rw [hA]; exact h
  have hroom : ∀ (d mL : Nat) {mc ms : Nat}, d < 4 → mL ≤ 21 → (rmL d mc ms).frames + 1 ≤ (jR Γ).frames ∧ 8 + (mL + 11) + (rmL d mc ms).locals ≤ (jR Γ).locals := fun d mL mc ms h1 h2 => by rw [hR]; exact rmL_le h1 h2
  show J Γ 3 (HS κ A s0) 0 0 0 [(0, .ref a0), (1, .int p1)] []
  unfold f10_price at hF
  refine j_blk (pc' := 2) (lv' := [(0, .ref a0), (1, .int p1)]) (st' := [.int p1, .ref a0]) E b_c10_price_0_2 rfl ?_
  replace hF := ocl_at hF
  obtain ⟨hc, hF⟩ := hF
  replace hF := obd_at hF
  obtain ⟨v2, he1, hF⟩ := hF
  refine j_callv [.int p1] [] E w_RX10_107 (hroom 1 2 (by decide) (by decide)) hAA (c10_personOn _ κ A _ _ _  he1) (fun _ h => h) (fun _ _ _ h _ _ => h) (fun _ h => j_recv E h hc rfl) rfl rfl (Nat.le_of_ble_eq_true rfl) d_c10_price_2 ⟨Nat.zero_le _, Nat.zero_le _⟩ ?_
  replace hF := onl_at hF
  rcases hF with ⟨rfl, hF⟩ | ⟨b3, rfl, hF⟩
  · skip
    refine j_blk (pc' := 7) (lv' := [(2, .null), (0, .ref a0), (1, .int p1)]) (st' := [.null]) E b_c10_price_5_2 rfl ?_
    refine j_nonnull_n E d_c10_price_7 ?_
    refine j_blk (pc' := 12) (lv' := [(2, .null), (0, .ref a0), (1, .int p1)]) (st' := [.int p1, .ref a0]) E b_c10_price_10_2 rfl ?_
    replace hF := ocl_at hF
    obtain ⟨hc, hF⟩ := hF
    replace hF := obd_at hF
    obtain ⟨v5, he4, hF⟩ := hF
    refine j_callv [.int p1] [] E w_RX10_55 (hroom 3 2 (by decide) (by decide)) hAA (c10_whyNotOn _ κ A _ _ _  he4) (fun _ h => h) (fun _ _ _ h _ _ => h) (fun _ h => j_recv E h hc rfl) rfl rfl (Nat.le_of_ble_eq_true rfl) d_c10_price_12 ⟨Nat.zero_le _, Nat.zero_le _⟩ ?_
    refine j_goto (tgt := 22) E d_c10_price_15 (by decide) ?_
    have e : res = v5 := g_inj hF
    subst e
    exact j_iret E hQ d_c10_price_22 (fun _ h => h)
  · skip
    refine j_blk (pc' := 7) (lv' := [(2, .ref b3), (0, .ref a0), (1, .int p1)]) (st' := [.ref b3]) E b_c10_price_5_2 rfl ?_
    refine j_nonnull_y (tgt := 18) E d_c10_price_7 (by decide) ?_
    refine j_blk (pc' := 19) (lv' := [(2, .ref b3), (0, .ref a0), (1, .int p1)]) (st' := [.ref b3]) E b_c10_price_18_1 rfl ?_
    replace hF := obd_at hF
    obtain ⟨v6, ev6, hF⟩ := hF
    refine jv_RX10_104 E hR (by decide) hAA ev6 d_c10_price_19 (Nat.le_of_ble_eq_true rfl) ⟨Nat.zero_le _, Nat.zero_le _⟩ ?_
    have e : res = v6 := g_inj hF
    subst e
    exact j_iret E hQ d_c10_price_22 (fun _ h => h)
theorem b_c10_newPerson_0_1 : bdec cX10_newPerson 0 [.iload_n 0] = true := by decide +kernel
theorem d_c10_newPerson_1 : decode cX10_newPerson 1 = .ok (.tableswitch 106 1 7 #[43, 52, 61, 70, 79, 88, 97], 43) := by decide +kernel
theorem d_c10_newPerson_44 : decode cX10_newPerson 44 = .ok (.new 267, 3) := by decide +kernel
theorem b_c10_newPerson_47_2 : bdec cX10_newPerson 47 [.dup, .iload_n 1] = true := by decide +kernel
theorem d_c10_newPerson_49 : decode cX10_newPerson 49 = .ok (.invokespecial 269, 3) := by decide +kernel
theorem d_c10_newPerson_52 : decode cX10_newPerson 52 = .ok (.areturn, 1) := by decide +kernel
theorem d_c10_newPerson_53 : decode cX10_newPerson 53 = .ok (.new 270, 3) := by decide +kernel
theorem b_c10_newPerson_56_2 : bdec cX10_newPerson 56 [.dup, .iload_n 1] = true := by decide +kernel
theorem d_c10_newPerson_58 : decode cX10_newPerson 58 = .ok (.invokespecial 272, 3) := by decide +kernel
theorem d_c10_newPerson_61 : decode cX10_newPerson 61 = .ok (.areturn, 1) := by decide +kernel
theorem d_c10_newPerson_62 : decode cX10_newPerson 62 = .ok (.new 273, 3) := by decide +kernel
theorem b_c10_newPerson_65_2 : bdec cX10_newPerson 65 [.dup, .iload_n 1] = true := by decide +kernel
theorem d_c10_newPerson_67 : decode cX10_newPerson 67 = .ok (.invokespecial 275, 3) := by decide +kernel
theorem d_c10_newPerson_70 : decode cX10_newPerson 70 = .ok (.areturn, 1) := by decide +kernel
theorem d_c10_newPerson_71 : decode cX10_newPerson 71 = .ok (.new 276, 3) := by decide +kernel
theorem b_c10_newPerson_74_2 : bdec cX10_newPerson 74 [.dup, .iload_n 1] = true := by decide +kernel
theorem d_c10_newPerson_76 : decode cX10_newPerson 76 = .ok (.invokespecial 278, 3) := by decide +kernel
theorem d_c10_newPerson_79 : decode cX10_newPerson 79 = .ok (.areturn, 1) := by decide +kernel
theorem d_c10_newPerson_80 : decode cX10_newPerson 80 = .ok (.new 279, 3) := by decide +kernel
theorem b_c10_newPerson_83_2 : bdec cX10_newPerson 83 [.dup, .iload_n 1] = true := by decide +kernel
theorem d_c10_newPerson_85 : decode cX10_newPerson 85 = .ok (.invokespecial 281, 3) := by decide +kernel
theorem d_c10_newPerson_88 : decode cX10_newPerson 88 = .ok (.areturn, 1) := by decide +kernel
theorem d_c10_newPerson_89 : decode cX10_newPerson 89 = .ok (.new 282, 3) := by decide +kernel
theorem b_c10_newPerson_92_2 : bdec cX10_newPerson 92 [.dup, .iload_n 1] = true := by decide +kernel
theorem d_c10_newPerson_94 : decode cX10_newPerson 94 = .ok (.invokespecial 284, 3) := by decide +kernel
theorem d_c10_newPerson_97 : decode cX10_newPerson 97 = .ok (.areturn, 1) := by decide +kernel
theorem d_c10_newPerson_98 : decode cX10_newPerson 98 = .ok (.new 285, 3) := by decide +kernel
theorem b_c10_newPerson_101_2 : bdec cX10_newPerson 101 [.dup, .iload_n 1] = true := by decide +kernel
theorem d_c10_newPerson_103 : decode cX10_newPerson 103 = .ok (.invokespecial 287, 3) := by decide +kernel
theorem d_c10_newPerson_106 : decode cX10_newPerson 106 = .ok (.areturn, 1) := by decide +kernel
theorem d_c10_newPerson_107 : decode cX10_newPerson 107 = .ok (.new 7, 3) := by decide +kernel
theorem b_c10_newPerson_110_2 : bdec cX10_newPerson 110 [.dup, .iload_n 1] = true := by decide +kernel
theorem d_c10_newPerson_112 : decode cX10_newPerson 112 = .ok (.invokespecial 9, 3) := by decide +kernel
theorem d_c10_newPerson_115 : decode cX10_newPerson 115 = .ok (.areturn, 1) := by decide +kernel
def f10_newPerson (s0 : HM) (p0 : Int32) (p1 : Int32) : Option (Value × HM) := if p0 = 1 then (obd (f4_init (hnew s0 (.inl (4, [.int 0]))) s0.2 p1) (fun s3 => some ((.ref s0.2 : Value), s3))) else (if p0 = 2 then (obd (f5_init (hnew s0 (.inl (5, [.int 0]))) s0.2 p1) (fun s6 => some ((.ref s0.2 : Value), s6))) else (if p0 = 3 then (obd (f1_init (hnew s0 (.inl (1, [.int 0]))) s0.2 p1) (fun s9 => some ((.ref s0.2 : Value), s9))) else (if p0 = 4 then (obd (f9_init (hnew s0 (.inl (9, [.int 0]))) s0.2 p1) (fun s12 => some ((.ref s0.2 : Value), s12))) else (if p0 = 5 then (obd (f3_init (hnew s0 (.inl (3, [.int 0]))) s0.2 p1) (fun s15 => some ((.ref s0.2 : Value), s15))) else (if p0 = 6 then (obd (f7_init (hnew s0 (.inl (7, [.int 0]))) s0.2 p1) (fun s18 => some ((.ref s0.2 : Value), s18))) else (if p0 = 7 then (obd (f0_init (hnew s0 (.inl (0, [.int 0]))) s0.2 p1) (fun s21 => some ((.ref s0.2 : Value), s21))) else (obd (f6_init (hnew s0 (.inl (6, [.int 0]))) s0.2 p1) (fun s23 => some ((.ref s0.2 : Value), s23)))))))))
set_option maxRecDepth 100000 in
set_option maxHeartbeats 4000000 in
theorem c10_newPerson (l : Launch) (κ : KP) (A : Nat → Prop) (hκ : kF κ = true) (s0 : HM) (p0 : Int32) (p1 : Int32) {res : Value × HM} (hF : f10_newPerson s0 p0 p1 = some res) : Met l yX10_newPerson (Cond.code yX10_newPerson cX10_newPerson 2 (some (.object "OneBeatsBoth$Player")) :: WT) (rmL 4 1 1) (PP κ A [.int p0, .int p1] (HS κ A s0)) (QQ (some res.1) (HS κ A res.2) A) 1 1 A := by
  refine met_of (own := RX10) (by decide) rfl (Nat.le_of_ble_eq_true rfl) ?_
  intro Γ E hQ hL hR hA hent hini
  have hAA : ∀ q, A q → jA Γ q := fun q h => by rw [hA]; exact h
  have hroom : ∀ (d mL : Nat) {mc ms : Nat}, d < 4 → mL ≤ 21 → (rmL d mc ms).frames + 1 ≤ (jR Γ).frames ∧ 8 + (mL + 11) + (rmL d mc ms).locals ≤ (jR Γ).locals := fun d mL mc ms h1 h2 => by rw [hR]; exact rmL_le h1 h2
  show J Γ 2 (HS κ A s0) 0 0 0 [(0, .int p0), (1, .int p1)] []
  unfold f10_newPerson at hF
  refine j_blk (pc' := 1) (lv' := [(0, .int p0), (1, .int p1)]) (st' := [.int p0]) E b_c10_newPerson_0_1 rfl ?_
  rcases Decidable.em (p0 = 1) with h1 | h1
  · replace hF := g_t hF h1
    refine j_tin (tgt := 44) (off := 43) E d_c10_newPerson_1 h1 (by decide) (by decide) (by decide) (by decide) ?_
    refine j_new (ci := 4) (fs := [.int 0]) E rfl ⟨m_202, m_203, m_49⟩ ux_4 tyX4_ok (dv_4) d_c10_newPerson_44 (by rw [hR]; decide) (by rw [hR]; decide) hκ ?_
    refine j_blk (pc' := 49) (lv' := [(0, .int p0), (1, .int p1)]) (st' := [.int p1, .ref s0.2, .ref s0.2]) E b_c10_newPerson_47_2 rfl ?_
    replace hF := obd_at hF
    obtain ⟨s3, he2, hF⟩ := hF
    refine j_calli [.int p1] [.ref s0.2] E w_RX10_269 (hroom 2 2 (by decide) (by decide)) hAA (c4_init _ κ A _ _ _  he2) (fun _ h => h) (fun _ _ _ h _ _ => h) rfl rfl (Nat.le_of_ble_eq_true rfl) d_c10_newPerson_49 ⟨by rw [hR]; decide, by rw [hR]; decide⟩ ?_
    have e : res = ((.ref s0.2 : Value), s3) := g_inj hF
    subst e
    refine j_wid (k' := 1) (n' := 1) (by decide) (by decide) ?_
    exact j_aret E hQ (Or.inl ⟨_, rfl⟩) (Or.inr ⟨_, rfl⟩) d_c10_newPerson_52 (fun _ h => h)
  · replace hF := g_f hF h1
    rcases Decidable.em (p0 = 2) with h4 | h4
    · replace hF := g_t hF h4
      refine j_tin (tgt := 53) (off := 52) E d_c10_newPerson_1 h4 (by decide) (by decide) (by decide) (by decide) ?_
      refine j_new (ci := 5) (fs := [.int 0]) E rfl ⟨m_210, m_211, m_50⟩ ux_5 tyX5_ok (dv_5) d_c10_newPerson_53 (by rw [hR]; decide) (by rw [hR]; decide) hκ ?_
      refine j_blk (pc' := 58) (lv' := [(0, .int p0), (1, .int p1)]) (st' := [.int p1, .ref s0.2, .ref s0.2]) E b_c10_newPerson_56_2 rfl ?_
      replace hF := obd_at hF
      obtain ⟨s6, he5, hF⟩ := hF
      refine j_calli [.int p1] [.ref s0.2] E w_RX10_272 (hroom 2 2 (by decide) (by decide)) hAA (c5_init _ κ A _ _ _  he5) (fun _ h => h) (fun _ _ _ h _ _ => h) rfl rfl (Nat.le_of_ble_eq_true rfl) d_c10_newPerson_58 ⟨by rw [hR]; decide, by rw [hR]; decide⟩ ?_
      have e : res = ((.ref s0.2 : Value), s6) := g_inj hF
      subst e
      refine j_wid (k' := 1) (n' := 1) (by decide) (by decide) ?_
      exact j_aret E hQ (Or.inl ⟨_, rfl⟩) (Or.inr ⟨_, rfl⟩) d_c10_newPerson_61 (fun _ h => h)
    · replace hF := g_f hF h4
      rcases Decidable.em (p0 = 3) with h7 | h7
      · replace hF := g_t hF h7
        refine j_tin (tgt := 62) (off := 61) E d_c10_newPerson_1 h7 (by decide) (by decide) (by decide) (by decide) ?_
        refine j_new (ci := 1) (fs := [.int 0]) E rfl ⟨m_218, m_219, m_51⟩ ux_1 tyX1_ok (dv_1) d_c10_newPerson_62 (by rw [hR]; decide) (by rw [hR]; decide) hκ ?_
        refine j_blk (pc' := 67) (lv' := [(0, .int p0), (1, .int p1)]) (st' := [.int p1, .ref s0.2, .ref s0.2]) E b_c10_newPerson_65_2 rfl ?_
        replace hF := obd_at hF
        obtain ⟨s9, he8, hF⟩ := hF
        refine j_calli [.int p1] [.ref s0.2] E w_RX10_275 (hroom 2 2 (by decide) (by decide)) hAA (c1_init _ κ A _ _ _  he8) (fun _ h => h) (fun _ _ _ h _ _ => h) rfl rfl (Nat.le_of_ble_eq_true rfl) d_c10_newPerson_67 ⟨by rw [hR]; decide, by rw [hR]; decide⟩ ?_
        have e : res = ((.ref s0.2 : Value), s9) := g_inj hF
        subst e
        refine j_wid (k' := 1) (n' := 1) (by decide) (by decide) ?_
        exact j_aret E hQ (Or.inl ⟨_, rfl⟩) (Or.inr ⟨_, rfl⟩) d_c10_newPerson_70 (fun _ h => h)
      · replace hF := g_f hF h7
        rcases Decidable.em (p0 = 4) with h10 | h10
        · replace hF := g_t hF h10
          refine j_tin (tgt := 71) (off := 70) E d_c10_newPerson_1 h10 (by decide) (by decide) (by decide) (by decide) ?_
          refine j_new (ci := 9) (fs := [.int 0]) E rfl ⟨m_226, m_227, m_52⟩ ux_9 tyX9_ok (dv_9) d_c10_newPerson_71 (by rw [hR]; decide) (by rw [hR]; decide) hκ ?_
          refine j_blk (pc' := 76) (lv' := [(0, .int p0), (1, .int p1)]) (st' := [.int p1, .ref s0.2, .ref s0.2]) E b_c10_newPerson_74_2 rfl ?_
          replace hF := obd_at hF
          obtain ⟨s12, he11, hF⟩ := hF
          refine j_calli [.int p1] [.ref s0.2] E w_RX10_278 (hroom 3 2 (by decide) (by decide)) hAA (c9_init _ κ A _ _ _  he11) (fun _ h => h) (fun _ _ _ h _ _ => h) rfl rfl (Nat.le_of_ble_eq_true rfl) d_c10_newPerson_76 ⟨by rw [hR]; decide, by rw [hR]; decide⟩ ?_
          have e : res = ((.ref s0.2 : Value), s12) := g_inj hF
          subst e
          refine j_wid (k' := 1) (n' := 1) (by decide) (by decide) ?_
          exact j_aret E hQ (Or.inl ⟨_, rfl⟩) (Or.inr ⟨_, rfl⟩) d_c10_newPerson_79 (fun _ h => h)
        · replace hF := g_f hF h10
          rcases Decidable.em (p0 = 5) with h13 | h13
          · replace hF := g_t hF h13
            refine j_tin (tgt := 80) (off := 79) E d_c10_newPerson_1 h13 (by decide) (by decide) (by decide) (by decide) ?_
            refine j_new (ci := 3) (fs := [.int 0]) E rfl ⟨m_234, m_235, m_53⟩ ux_3 tyX3_ok (dv_3) d_c10_newPerson_80 (by rw [hR]; decide) (by rw [hR]; decide) hκ ?_
            refine j_blk (pc' := 85) (lv' := [(0, .int p0), (1, .int p1)]) (st' := [.int p1, .ref s0.2, .ref s0.2]) E b_c10_newPerson_83_2 rfl ?_
            replace hF := obd_at hF
            obtain ⟨s15, he14, hF⟩ := hF
            refine j_calli [.int p1] [.ref s0.2] E w_RX10_281 (hroom 3 2 (by decide) (by decide)) hAA (c3_init _ κ A _ _ _  he14) (fun _ h => h) (fun _ _ _ h _ _ => h) rfl rfl (Nat.le_of_ble_eq_true rfl) d_c10_newPerson_85 ⟨by rw [hR]; decide, by rw [hR]; decide⟩ ?_
            have e : res = ((.ref s0.2 : Value), s15) := g_inj hF
            subst e
            refine j_wid (k' := 1) (n' := 1) (by decide) (by decide) ?_
            exact j_aret E hQ (Or.inl ⟨_, rfl⟩) (Or.inr ⟨_, rfl⟩) d_c10_newPerson_88 (fun _ h => h)
          · replace hF := g_f hF h13
            rcases Decidable.em (p0 = 6) with h16 | h16
            · replace hF := g_t hF h16
              refine j_tin (tgt := 89) (off := 88) E d_c10_newPerson_1 h16 (by decide) (by decide) (by decide) (by decide) ?_
              refine j_new (ci := 7) (fs := [.int 0]) E rfl ⟨m_242, m_243, m_54⟩ ux_7 tyX7_ok (dv_7) d_c10_newPerson_89 (by rw [hR]; decide) (by rw [hR]; decide) hκ ?_
              refine j_blk (pc' := 94) (lv' := [(0, .int p0), (1, .int p1)]) (st' := [.int p1, .ref s0.2, .ref s0.2]) E b_c10_newPerson_92_2 rfl ?_
              replace hF := obd_at hF
              obtain ⟨s18, he17, hF⟩ := hF
              refine j_calli [.int p1] [.ref s0.2] E w_RX10_284 (hroom 3 2 (by decide) (by decide)) hAA (c7_init _ κ A _ _ _  he17) (fun _ h => h) (fun _ _ _ h _ _ => h) rfl rfl (Nat.le_of_ble_eq_true rfl) d_c10_newPerson_94 ⟨by rw [hR]; decide, by rw [hR]; decide⟩ ?_
              have e : res = ((.ref s0.2 : Value), s18) := g_inj hF
              subst e
              refine j_wid (k' := 1) (n' := 1) (by decide) (by decide) ?_
              exact j_aret E hQ (Or.inl ⟨_, rfl⟩) (Or.inr ⟨_, rfl⟩) d_c10_newPerson_97 (fun _ h => h)
            · replace hF := g_f hF h16
              rcases Decidable.em (p0 = 7) with h19 | h19
              · replace hF := g_t hF h19
                refine j_tin (tgt := 98) (off := 97) E d_c10_newPerson_1 h19 (by decide) (by decide) (by decide) (by decide) ?_
                refine j_new (ci := 0) (fs := [.int 0]) E rfl ⟨m_250, m_251, m_55⟩ ux_0 tyX0_ok (dv_0) d_c10_newPerson_98 (by rw [hR]; decide) (by rw [hR]; decide) hκ ?_
                refine j_blk (pc' := 103) (lv' := [(0, .int p0), (1, .int p1)]) (st' := [.int p1, .ref s0.2, .ref s0.2]) E b_c10_newPerson_101_2 rfl ?_
                replace hF := obd_at hF
                obtain ⟨s21, he20, hF⟩ := hF
                refine j_calli [.int p1] [.ref s0.2] E w_RX10_287 (hroom 2 2 (by decide) (by decide)) hAA (c0_init _ κ A _ _ _  he20) (fun _ h => h) (fun _ _ _ h _ _ => h) rfl rfl (Nat.le_of_ble_eq_true rfl) d_c10_newPerson_103 ⟨by rw [hR]; decide, by rw [hR]; decide⟩ ?_
                have e : res = ((.ref s0.2 : Value), s21) := g_inj hF
                subst e
                refine j_wid (k' := 1) (n' := 1) (by decide) (by decide) ?_
                exact j_aret E hQ (Or.inl ⟨_, rfl⟩) (Or.inr ⟨_, rfl⟩) d_c10_newPerson_106 (fun _ h => h)
              · replace hF := g_f hF h19
                have h1 := lv_neT h1 (a := 1) (by decide)
                have h4 := lv_neT h4 (a := 2) (by decide)
                have h7 := lv_neT h7 (a := 3) (by decide)
                have h10 := lv_neT h10 (a := 4) (by decide)
                have h13 := lv_neT h13 (a := 5) (by decide)
                have h16 := lv_neT h16 (a := 6) (by decide)
                have h19 := lv_neT h19 (a := 7) (by decide)
                refine j_tout (tgt := 107) E d_c10_newPerson_1 (by omega) (by decide) ?_
                refine j_new (ci := 6) (fs := [.int 0]) E rfl ⟨m_73, m_74, m_46⟩ ux_6 tyX6_ok (dv_6) d_c10_newPerson_107 (by rw [hR]; decide) (by rw [hR]; decide) hκ ?_
                refine j_blk (pc' := 112) (lv' := [(0, .int p0), (1, .int p1)]) (st' := [.int p1, .ref s0.2, .ref s0.2]) E b_c10_newPerson_110_2 rfl ?_
                replace hF := obd_at hF
                obtain ⟨s23, he22, hF⟩ := hF
                refine j_calli [.int p1] [.ref s0.2] E w_RX10_9 (hroom 1 2 (by decide) (by decide)) hAA (c6_init _ κ A _ _ _  he22) (fun _ h => h) (fun _ _ _ h _ _ => h) rfl rfl (Nat.le_of_ble_eq_true rfl) d_c10_newPerson_112 ⟨by rw [hR]; decide, by rw [hR]; decide⟩ ?_
                have e : res = ((.ref s0.2 : Value), s23) := g_inj hF
                subst e
                refine j_wid (k' := 1) (n' := 1) (by decide) (by decide) ?_
                exact j_aret E hQ (Or.inl ⟨_, rfl⟩) (Or.inr ⟨_, rfl⟩) d_c10_newPerson_115 (fun _ h => h)
theorem b_c10_lawful_0_1 : bdec cX10_lawful 0 [.aload_n 0] = true := by decide +kernel
theorem d_c10_lawful_1 : decode cX10_lawful 1 = .ok (.getfield 23, 3) := by decide +kernel
theorem d_c10_lawful_4 : decode cX10_lawful 4 = .ok (.invokevirtual 133, 3) := by decide +kernel
theorem d_c10_lawful_7 : decode cX10_lawful 7 = .ok (.ifCond .eq 7, 3) := by decide +kernel
theorem b_c10_lawful_14_1 : bdec cX10_lawful 14 [.iconst 0] = true := by decide +kernel
theorem d_c10_lawful_15 : decode cX10_lawful 15 = .ok (.ireturn, 1) := by decide +kernel
theorem b_c10_lawful_10_1 : bdec cX10_lawful 10 [.iconst 1] = true := by decide +kernel
theorem d_c10_lawful_11 : decode cX10_lawful 11 = .ok (.goto 4, 3) := by decide +kernel
def f10_lawful (s0 : HM) (a0 : Nat) : Option (Int32) := obd (hfld s0 [10] 1 a0) (fun v1 => orf v1 (fun b2 => ocl s0 b2 2 (obd (f2_isLawful s0 b2) (fun v4 => if v4 = 0 then (some (Int32.ofInt 0)) else (some (Int32.ofInt 1))))))
set_option maxRecDepth 100000 in
set_option maxHeartbeats 4000000 in
theorem c10_lawful (l : Launch) (κ : KP) (A : Nat → Prop) (s0 : HM) (a0 : Nat) {res : Int32} (hF : f10_lawful s0 a0 = some res) : Met l yX10_lawful (Cond.code yX10_lawful cX10_lawful 1 (some .int) :: WT) (rmL 5 0 0) (PP κ A [.ref a0] (HS κ A s0)) (QQ (some (.int res)) (HS κ A s0) A) 0 0 A := by
  refine met_of (own := RX10) (by decide) rfl (Nat.le_of_ble_eq_true rfl) ?_
  intro Γ E hQ hL hR hA hent hini
  have hAA : ∀ q, A q → jA Γ q := fun q h => by rw [hA]; exact h
  have hroom : ∀ (d mL : Nat) {mc ms : Nat}, d < 5 → mL ≤ 21 → (rmL d mc ms).frames + 1 ≤ (jR Γ).frames ∧ 8 + (mL + 11) + (rmL d mc ms).locals ≤ (jR Γ).locals := fun d mL mc ms h1 h2 => by rw [hR]; exact rmL_le h1 h2
  show J Γ 1 (HS κ A s0) 0 0 0 [(0, .ref a0)] []
  unfold f10_lawful at hF
  refine j_blk (pc' := 1) (lv' := [(0, .ref a0)]) (st' := [.ref a0]) E b_c10_lawful_0_1 rfl ?_
  replace hF := obd_at hF
  obtain ⟨v1, ev1, hF⟩ := hF
  refine j_getf E fg_RX10_23 d_c10_lawful_1 ev1 ?_
  replace hF := orf_at hF
  obtain ⟨b2, rfl, hF⟩ := hF
  replace hF := ocl_at hF
  obtain ⟨hc, hF⟩ := hF
  replace hF := obd_at hF
  obtain ⟨v4, he3, hF⟩ := hF
  refine j_callv [] [] E w_RX10_133 (hroom 4 1 (by decide) (by decide)) hAA (c2_isLawful _ κ A _ _  he3) (fun _ h => h) (fun _ _ _ h _ _ => h) (fun _ h => j_recv E h hc rfl) rfl rfl (Nat.le_of_ble_eq_true rfl) d_c10_lawful_4 ⟨Nat.zero_le _, Nat.zero_le _⟩ ?_
  refine j_if_eq (tgt := 14) E d_c10_lawful_7 (by decide) (fun h5 => ?_) (fun h5 => ?_)
  · replace hF := g_t hF h5
    refine j_blk (pc' := 15) (lv' := [(0, .ref a0)]) (st' := [.int (Int32.ofInt 0)]) E b_c10_lawful_14_1 rfl ?_
    have e : res = Int32.ofInt 0 := g_inj hF
    subst e
    exact j_iret E hQ d_c10_lawful_15 (fun _ h => h)
  · replace hF := g_f hF h5
    refine j_blk (pc' := 11) (lv' := [(0, .ref a0)]) (st' := [.int (Int32.ofInt 1)]) E b_c10_lawful_10_1 rfl ?_
    refine j_goto (tgt := 15) E d_c10_lawful_11 (by decide) ?_
    have e : res = Int32.ofInt 1 := g_inj hF
    subst e
    exact j_iret E hQ d_c10_lawful_15 (fun _ h => h)
theorem b_c10_fresh_0_2 : bdec cX10_fresh 0 [.iload_n 1, .iload_n 2] = true := by decide +kernel
theorem d_c10_fresh_2 : decode cX10_fresh 2 = .ok (.invokestatic 165, 3) := by decide +kernel
theorem d_c10_fresh_5 : decode cX10_fresh 5 = .ok (.ifCond .eq 12, 3) := by decide +kernel
theorem b_c10_fresh_17_1 : bdec cX10_fresh 17 [.iconst (-1)] = true := by decide +kernel
theorem d_c10_fresh_18 : decode cX10_fresh 18 = .ok (.ireturn, 1) := by decide +kernel
theorem b_c10_fresh_8_1 : bdec cX10_fresh 8 [.iload_n 3] = true := by decide +kernel
theorem d_c10_fresh_9 : decode cX10_fresh 9 = .ok (.ifCond .lt 8, 3) := by decide +kernel
theorem b_c10_fresh_12_2 : bdec cX10_fresh 12 [.iload_n 3, .iconst 1] = true := by decide +kernel
theorem d_c10_fresh_14 : decode cX10_fresh 14 = .ok (.if_icmp .le 5, 3) := by decide +kernel
theorem b_c10_fresh_19_1 : bdec cX10_fresh 19 [.aload_n 0] = true := by decide +kernel
theorem d_c10_fresh_20 : decode cX10_fresh 20 = .ok (.getfield 27, 3) := by decide +kernel
theorem b_c10_fresh_23_1 : bdec cX10_fresh 23 [.aload_n 0] = true := by decide +kernel
theorem d_c10_fresh_24 : decode cX10_fresh 24 = .ok (.getfield 23, 3) := by decide +kernel
theorem d_c10_fresh_27 : decode cX10_fresh 27 = .ok (.invokevirtual 63, 3) := by decide +kernel
theorem b_c10_fresh_30_1 : bdec cX10_fresh 30 [.aload_n 0] = true := by decide +kernel
theorem d_c10_fresh_31 : decode cX10_fresh 31 = .ok (.getfield 27, 3) := by decide +kernel
theorem b_c10_fresh_34_2 : bdec cX10_fresh 34 [.iload_n 1, .iload_n 2] = true := by decide +kernel
theorem d_c10_fresh_36 : decode cX10_fresh 36 = .ok (.invokestatic 168, 3) := by decide +kernel
theorem d_c10_fresh_39 : decode cX10_fresh 39 = .ok (.invokevirtual 113, 3) := by decide +kernel
theorem b_c10_fresh_42_1 : bdec cX10_fresh 42 [.aload_n 0] = true := by decide +kernel
theorem d_c10_fresh_43 : decode cX10_fresh 43 = .ok (.getfield 23, 3) := by decide +kernel
theorem d_c10_fresh_46 : decode cX10_fresh 46 = .ok (.getfield 111, 3) := by decide +kernel
theorem b_c10_fresh_49_7 : bdec cX10_fresh 49 [.istore 4, .iconst 0, .istore 5, .bipush (-4), .istore 6, .iconst 0, .istore 7] = true := by decide +kernel
theorem b_c10_fresh_61_4 : bdec cX10_fresh 61 [.iload 7, .iconst 1, .iload 4, .ishl] = true := by decide +kernel
theorem d_c10_fresh_67 : decode cX10_fresh 67 = .ok (.if_icmp .ge 61, 3) := by decide +kernel
theorem b_c10_fresh_70_1 : bdec cX10_fresh 70 [.aload_n 0] = true := by decide +kernel
theorem d_c10_fresh_71 : decode cX10_fresh 71 = .ok (.getfield 27, 3) := by decide +kernel
theorem b_c10_fresh_74_2 : bdec cX10_fresh 74 [.iload 4, .iload 7] = true := by decide +kernel
theorem d_c10_fresh_78 : decode cX10_fresh 78 = .ok (.invokevirtual 172, 3) := by decide +kernel
theorem b_c10_fresh_81_1 : bdec cX10_fresh 81 [.aload_n 0] = true := by decide +kernel
theorem d_c10_fresh_82 : decode cX10_fresh 82 = .ok (.getfield 27, 3) := by decide +kernel
theorem d_c10_fresh_85 : decode cX10_fresh 85 = .ok (.invokevirtual 133, 3) := by decide +kernel
theorem d_c10_fresh_88 : decode cX10_fresh 88 = .ok (.ifCond .eq 34, 3) := by decide +kernel
theorem b_c10_fresh_122_1 : bdec cX10_fresh 122 [.iinc 7 1] = true := by decide +kernel
theorem d_c10_fresh_125 : decode cX10_fresh 125 = .ok (.goto (-64), 3) := by decide +kernel
theorem b_c10_fresh_91_3 : bdec cX10_fresh 91 [.iinc 5 1, .iload 4, .iload 7] = true := by decide +kernel
theorem d_c10_fresh_98 : decode cX10_fresh 98 = .ok (.invokestatic 156, 3) := by decide +kernel
theorem b_c10_fresh_101_4 : bdec cX10_fresh 101 [.isub, .istore 8, .iload 6, .bipush (-4)] = true := by decide +kernel
theorem d_c10_fresh_108 : decode cX10_fresh 108 = .ok (.if_icmp .eq 10, 3) := by decide +kernel
theorem b_c10_fresh_118_3 : bdec cX10_fresh 118 [.iload 8, .istore 6, .iinc 7 1] = true := by decide +kernel
theorem b_c10_fresh_111_2 : bdec cX10_fresh 111 [.iload 8, .iload 6] = true := by decide +kernel
theorem d_c10_fresh_115 : decode cX10_fresh 115 = .ok (.if_icmp .ge 7, 3) := by decide +kernel
theorem b_c10_fresh_128_1 : bdec cX10_fresh 128 [.iload_n 3] = true := by decide +kernel
theorem d_c10_fresh_129 : decode cX10_fresh 129 = .ok (.ifCond .ne 8, 3) := by decide +kernel
theorem b_c10_fresh_137_1 : bdec cX10_fresh 137 [.iload 6] = true := by decide +kernel
theorem d_c10_fresh_139 : decode cX10_fresh 139 = .ok (.ireturn, 1) := by decide +kernel
theorem b_c10_fresh_132_1 : bdec cX10_fresh 132 [.iload 5] = true := by decide +kernel
theorem d_c10_fresh_134 : decode cX10_fresh 134 = .ok (.goto 5, 3) := by decide +kernel
def f10_fresh_L61 (a0 : Nat) (p3 : Int32) (v22 : Int32) (w : Int32 × Int32 × Int32 × HM) : Option ((Int32 × Int32 × Int32 × HM) ⊕ (Int32 × Int32 × HM)) := match w with
  | (x61_5, x61_6, x61_7, s61) => if ((Int32.ofInt 1) <<< (v22 &&& 31)) ≤ x61_7 then (some (.inr (x61_5, x61_6, s61))) else (obd (hfld s61 [10] 2 a0) (fun v25 => orf v25 (fun b26 => ocl s61 b26 2 (obd (f2_newcomerBeats s61 b26 v22 x61_7) (fun s28 => obd (hfld s28 [10] 2 a0) (fun v29 => orf v29 (fun b30 => ocl s28 b30 2 (obd (f2_isLawful s28 b30) (fun v32 => if v32 = 0 then (some (.inl (x61_5, x61_6, x61_7 + Int32.ofInt 1, s28))) else (obd (fJ6_bitCount_0f7a4 x61_7) (fun v35 => if x61_6 = ((Int8.ofInt (-4)).toInt32) then (some (.inl (x61_5 + Int32.ofInt 1, v22 - v35, x61_7 + Int32.ofInt 1, s28))) else (if x61_6 ≤ (v22 - v35) then (some (.inl (x61_5 + Int32.ofInt 1, x61_6, x61_7 + Int32.ofInt 1, s28))) else (some (.inl (x61_5 + Int32.ofInt 1, v22 - v35, x61_7 + Int32.ofInt 1, s28)))))))))))))))
def f10_fresh (s0 : HM) (a0 : Nat) (p1 : Int32) (p2 : Int32) (p3 : Int32) : Option (Int32 × HM) := obd (f10_isPerson p1 p2) (fun v2 => if v2 = 0 then (some (Int32.ofInt (-1), s0)) else (if p3 < 0 then (some (Int32.ofInt (-1), s0)) else (if p3 ≤ (Int32.ofInt 1) then (obd (hfld s0 [10] 2 a0) (fun v6 => obd (hfld s0 [10] 1 a0) (fun v7 => orf v7 (fun b8 => orf v6 (fun b9 => ocl s0 b9 2 (obd (f2_become s0 b9 b8) (fun s11 => obd (hfld s11 [10] 2 a0) (fun v12 => orf v12 (fun b13 => obd (f10_newPerson s11 p1 p2) (fun e14 => match e14 with | (v16, s15) => orf v16 (fun b17 => ocl s15 b13 2 (obd (f2_seat s15 b13 b17) (fun s19 => obd (hfld s19 [10] 1 a0) (fun v20 => orf v20 (fun b21 => obd (hfi s19 [2] 2 b21) (fun v22 => obd (iter (f10_fresh_L61 a0 p3 v22) FU (Int32.ofInt 0, (Int8.ofInt (-4)).toInt32, Int32.ofInt 0, s19)) (fun o23 => match o23 with | (e61_5, e61_6, t61) => if p3 = 0 then (some (e61_5, t61)) else (some (e61_6, t61))))))))))))))))))) else (some (Int32.ofInt (-1), s0)))))
set_option maxRecDepth 100000 in
set_option maxHeartbeats 4000000 in
theorem c10_fresh (l : Launch) (κ : KP) (A : Nat → Prop) (hκ : kF κ = true) (s0 : HM) (a0 : Nat) (p1 : Int32) (p2 : Int32) (p3 : Int32) {res : Int32 × HM} (hF : f10_fresh s0 a0 p1 p2 p3 = some res) : Met l yX10_fresh (Cond.code yX10_fresh cX10_fresh 9 (some .int) :: WT) (rmL 5 1 1) (PP κ A [.ref a0, .int p1, .int p2, .int p3] (HS κ A s0)) (QQ (some (.int res.1)) (HS κ A res.2) A) 1 1 A := by
  refine met_of (own := RX10) (by decide) rfl (Nat.le_of_ble_eq_true rfl) ?_
  intro Γ E hQ hL hR hA hent hini
  have hAA : ∀ q, A q → jA Γ q := fun q h => by rw [hA]; exact h
  have hroom : ∀ (d mL : Nat) {mc ms : Nat}, d < 5 → mL ≤ 21 → (rmL d mc ms).frames + 1 ≤ (jR Γ).frames ∧ 8 + (mL + 11) + (rmL d mc ms).locals ≤ (jR Γ).locals := fun d mL mc ms h1 h2 => by rw [hR]; exact rmL_le h1 h2
  show J Γ 9 (HS κ A s0) 0 0 0 [(0, .ref a0), (1, .int p1), (2, .int p2), (3, .int p3)] []
  unfold f10_fresh at hF
  refine j_blk (pc' := 2) (lv' := [(0, .ref a0), (1, .int p1), (2, .int p2), (3, .int p3)]) (st' := [.int p2, .int p1]) E b_c10_fresh_0_2 rfl ?_
  replace hF := obd_at hF
  obtain ⟨v2, he1, hF⟩ := hF
  refine j_calls [.int p1, .int p2] [] E w_RX10_165 (hroom 0 2 (by decide) (by decide)) hAA (c10_isPerson _ κ A (HS κ A s0) _ _  he1) (fun _ h => h) (fun _ _ _ h _ _ => h) rfl rfl (Nat.le_of_ble_eq_true rfl) d_c10_fresh_2 ⟨Nat.zero_le _, Nat.zero_le _⟩ ?_
  refine j_if_eq (tgt := 17) E d_c10_fresh_5 (by decide) (fun h3 => ?_) (fun h3 => ?_)
  · replace hF := g_t hF h3
    refine j_blk (pc' := 18) (lv' := [(0, .ref a0), (1, .int p1), (2, .int p2), (3, .int p3)]) (st' := [.int (Int32.ofInt (-1))]) E b_c10_fresh_17_1 rfl ?_
    have e : res = (Int32.ofInt (-1), s0) := g_inj hF
    subst e
    refine j_wid (k' := 1) (n' := 1) (by decide) (by decide) ?_
    exact j_iret E hQ d_c10_fresh_18 (fun _ h => h)
  · replace hF := g_f hF h3
    refine j_blk (pc' := 9) (lv' := [(0, .ref a0), (1, .int p1), (2, .int p2), (3, .int p3)]) (st' := [.int p3]) E b_c10_fresh_8_1 rfl ?_
    refine j_if_lt (tgt := 17) E d_c10_fresh_9 (by decide) (fun h4 => ?_) (fun h4 => ?_)
    · replace hF := g_t hF h4
      refine j_blk (pc' := 18) (lv' := [(0, .ref a0), (1, .int p1), (2, .int p2), (3, .int p3)]) (st' := [.int (Int32.ofInt (-1))]) E b_c10_fresh_17_1 rfl ?_
      have e : res = (Int32.ofInt (-1), s0) := g_inj hF
      subst e
      refine j_wid (k' := 1) (n' := 1) (by decide) (by decide) ?_
      exact j_iret E hQ d_c10_fresh_18 (fun _ h => h)
    · replace hF := g_f hF h4
      refine j_blk (pc' := 14) (lv' := [(0, .ref a0), (1, .int p1), (2, .int p2), (3, .int p3)]) (st' := [.int (Int32.ofInt 1), .int p3]) E b_c10_fresh_12_2 rfl ?_
      refine j_icmp_le (tgt := 19) E d_c10_fresh_14 (by decide) (fun h5 => ?_) (fun h5 => ?_)
      · replace hF := g_t hF h5
        refine j_blk (pc' := 20) (lv' := [(0, .ref a0), (1, .int p1), (2, .int p2), (3, .int p3)]) (st' := [.ref a0]) E b_c10_fresh_19_1 rfl ?_
        replace hF := obd_at hF
        obtain ⟨v6, ev6, hF⟩ := hF
        refine j_getf E fg_RX10_27 d_c10_fresh_20 ev6 ?_
        refine j_blk (pc' := 24) (lv' := [(0, .ref a0), (1, .int p1), (2, .int p2), (3, .int p3)]) (st' := [.ref a0, v6]) E b_c10_fresh_23_1 rfl ?_
        replace hF := obd_at hF
        obtain ⟨v7, ev7, hF⟩ := hF
        refine j_getf E fg_RX10_23 d_c10_fresh_24 ev7 ?_
        replace hF := orf_at hF
        obtain ⟨b8, rfl, hF⟩ := hF
        replace hF := orf_at hF
        obtain ⟨b9, rfl, hF⟩ := hF
        replace hF := ocl_at hF
        obtain ⟨hc, hF⟩ := hF
        replace hF := obd_at hF
        obtain ⟨s11, he10, hF⟩ := hF
        refine j_callv [.ref b8] [] E w_RX10_63 (hroom 0 3 (by decide) (by decide)) hAA (c2_become _ κ A _ _ _  he10) (fun _ h => h) (fun _ _ _ h _ _ => h) (fun _ h => j_recv E h hc rfl) rfl rfl (Nat.le_of_ble_eq_true rfl) d_c10_fresh_27 ⟨Nat.zero_le _, Nat.zero_le _⟩ ?_
        refine j_blk (pc' := 31) (lv' := [(0, .ref a0), (1, .int p1), (2, .int p2), (3, .int p3)]) (st' := [.ref a0]) E b_c10_fresh_30_1 rfl ?_
        replace hF := obd_at hF
        obtain ⟨v12, ev12, hF⟩ := hF
        refine j_getf E fg_RX10_27 d_c10_fresh_31 ev12 ?_
        refine j_blk (pc' := 36) (lv' := [(0, .ref a0), (1, .int p1), (2, .int p2), (3, .int p3)]) (st' := [.int p2, .int p1, v12]) E b_c10_fresh_34_2 rfl ?_
        replace hF := orf_at hF
        obtain ⟨b13, rfl, hF⟩ := hF
        replace hF := obd_at hF
        obtain ⟨⟨v16, s15⟩, he14, hF⟩ := hF
        refine j_calls [.int p1, .int p2] [.ref b13] E w_RX10_168 (hroom 4 2 (by decide) (by decide)) hAA (c10_newPerson _ κ A hκ _ _ _ he14) (fun _ h => h) (fun _ _ _ h _ _ => h) rfl rfl (Nat.le_of_ble_eq_true rfl) d_c10_fresh_36 ⟨by rw [hR]; decide, by rw [hR]; decide⟩ ?_
        replace hF := orf_at hF
        obtain ⟨b17, rfl, hF⟩ := hF
        replace hF := ocl_at hF
        obtain ⟨hc, hF⟩ := hF
        replace hF := obd_at hF
        obtain ⟨s19, he18, hF⟩ := hF
        refine j_callv [.ref b17] [] E w_RX10_113 (hroom 0 3 (by decide) (by decide)) hAA (c2_seat _ κ A _ _ _  he18) (fun _ h => h) (fun _ _ _ h _ _ => h) (fun _ h => j_recv E h hc rfl) rfl rfl (Nat.le_of_ble_eq_true rfl) d_c10_fresh_39 ⟨by rw [hR]; decide, by rw [hR]; decide⟩ ?_
        refine j_blk (pc' := 43) (lv' := [(0, .ref a0), (1, .int p1), (2, .int p2), (3, .int p3)]) (st' := [.ref a0]) E b_c10_fresh_42_1 rfl ?_
        replace hF := obd_at hF
        obtain ⟨v20, ev20, hF⟩ := hF
        refine j_getf E fg_RX10_23 d_c10_fresh_43 ev20 ?_
        replace hF := orf_at hF
        obtain ⟨b21, rfl, hF⟩ := hF
        replace hF := obd_at hF
        obtain ⟨v22, ev22, hF⟩ := hF
        refine j_getI E fg_RX10_111 d_c10_fresh_46 ev22 ?_
        refine j_blk (pc' := 61) (lv' := [(7, .int (Int32.ofInt 0)), (6, .int ((Int8.ofInt (-4)).toInt32)), (5, .int (Int32.ofInt 0)), (4, .int v22), (0, .ref a0), (1, .int p1), (2, .int p2), (3, .int p3)]) (st' := []) E b_c10_fresh_49_7 rfl ?_
        refine j_lv [4, 7, 3, 2, 1, 0] rfl ?_
        replace hF := obd_at hF
        obtain ⟨o23, ho23, hF⟩ := hF
        have lpo23 : ∀ (fu : Nat) (w : Int32 × Int32 × Int32 × HM) (o : Int32 × Int32 × HM), iter (f10_fresh_L61 a0 p3 v22) fu w = some o → (fun (o : Int32 × Int32 × HM) => J Γ 9 (HS κ A o.2.2) 1 1 128 [(3, .int p3), (5, .int o.1), (6, .int o.2.1)] []) o → (fun (w : Int32 × Int32 × Int32 × HM) => J Γ 9 (HS κ A w.2.2.2) 1 1 61 [(0, .ref a0), (3, .int p3), (4, .int v22), (5, .int w.1), (6, .int w.2.1), (7, .int w.2.2.1)] []) w := by
          refine j_iter (P := fun (w : Int32 × Int32 × Int32 × HM) => J Γ 9 (HS κ A w.2.2.2) 1 1 61 [(0, .ref a0), (3, .int p3), (4, .int v22), (5, .int w.1), (6, .int w.2.1), (7, .int w.2.2.1)] []) (G := fun (o : Int32 × Int32 × HM) => J Γ 9 (HS κ A o.2.2) 1 1 128 [(3, .int p3), (5, .int o.1), (6, .int o.2.1)] []) ?_
          rintro ⟨x61_5, x61_6, x61_7, s61⟩ q hF hI hO
          show J Γ 9 (HS κ A s61) 1 1 61 [(0, .ref a0), (3, .int p3), (4, .int v22), (5, .int x61_5), (6, .int x61_6), (7, .int x61_7)] []
          unfold f10_fresh_L61 at hF
          refine j_blk (pc' := 67) (lv' := [(0, .ref a0), (3, .int p3), (4, .int v22), (5, .int x61_5), (6, .int x61_6), (7, .int x61_7)]) (st' := [.int ((Int32.ofInt 1) <<< (v22 &&& 31)), .int x61_7]) E b_c10_fresh_61_4 rfl ?_
          refine j_icmp_ge (tgt := 128) E d_c10_fresh_67 (by decide) (fun h24 => ?_) (fun h24 => ?_)
          · replace hF := g_t hF h24
            refine j_lv [1, 3, 4] rfl ?_
            exact hO _ (g_inj hF)
          · replace hF := g_f hF h24
            refine j_blk (pc' := 71) (lv' := [(0, .ref a0), (3, .int p3), (4, .int v22), (5, .int x61_5), (6, .int x61_6), (7, .int x61_7)]) (st' := [.ref a0]) E b_c10_fresh_70_1 rfl ?_
            replace hF := obd_at hF
            obtain ⟨v25, ev25, hF⟩ := hF
            refine j_getf E fg_RX10_27 d_c10_fresh_71 ev25 ?_
            refine j_blk (pc' := 78) (lv' := [(0, .ref a0), (3, .int p3), (4, .int v22), (5, .int x61_5), (6, .int x61_6), (7, .int x61_7)]) (st' := [.int x61_7, .int v22, v25]) E b_c10_fresh_74_2 rfl ?_
            replace hF := orf_at hF
            obtain ⟨b26, rfl, hF⟩ := hF
            replace hF := ocl_at hF
            obtain ⟨hc, hF⟩ := hF
            replace hF := obd_at hF
            obtain ⟨s28, he27, hF⟩ := hF
            refine j_callv [.int v22, .int x61_7] [] E w_RX10_172 (hroom 1 4 (by decide) (by decide)) hAA (c2_newcomerBeats _ κ A _ _ _ _  he27) (fun _ h => h) (fun _ _ _ h _ _ => h) (fun _ h => j_recv E h hc rfl) rfl rfl (Nat.le_of_ble_eq_true rfl) d_c10_fresh_78 ⟨by rw [hR]; decide, by rw [hR]; decide⟩ ?_
            refine j_blk (pc' := 82) (lv' := [(0, .ref a0), (3, .int p3), (4, .int v22), (5, .int x61_5), (6, .int x61_6), (7, .int x61_7)]) (st' := [.ref a0]) E b_c10_fresh_81_1 rfl ?_
            replace hF := obd_at hF
            obtain ⟨v29, ev29, hF⟩ := hF
            refine j_getf E fg_RX10_27 d_c10_fresh_82 ev29 ?_
            replace hF := orf_at hF
            obtain ⟨b30, rfl, hF⟩ := hF
            replace hF := ocl_at hF
            obtain ⟨hc, hF⟩ := hF
            replace hF := obd_at hF
            obtain ⟨v32, he31, hF⟩ := hF
            refine j_callv [] [] E w_RX10_133 (hroom 4 1 (by decide) (by decide)) hAA (c2_isLawful _ κ A _ _  he31) (fun _ h => h) (fun _ _ _ h _ _ => h) (fun _ h => j_recv E h hc rfl) rfl rfl (Nat.le_of_ble_eq_true rfl) d_c10_fresh_85 ⟨by rw [hR]; decide, by rw [hR]; decide⟩ ?_
            refine j_if_eq (tgt := 122) E d_c10_fresh_88 (by decide) (fun h33 => ?_) (fun h33 => ?_)
            · replace hF := g_t hF h33
              refine j_blk (pc' := 125) (lv' := [(7, .int (x61_7 + Int32.ofInt 1)), (0, .ref a0), (3, .int p3), (4, .int v22), (5, .int x61_5), (6, .int x61_6)]) (st' := []) E b_c10_fresh_122_1 rfl ?_
              refine j_goto (tgt := 61) E d_c10_fresh_125 (by decide) ?_
              refine j_lv [1, 2, 3, 4, 5, 0] rfl ?_
              exact hI _ (g_inj hF)
            · replace hF := g_f hF h33
              refine j_blk (pc' := 98) (lv' := [(5, .int (x61_5 + Int32.ofInt 1)), (0, .ref a0), (3, .int p3), (4, .int v22), (6, .int x61_6), (7, .int x61_7)]) (st' := [.int x61_7, .int v22]) E b_c10_fresh_91_3 rfl ?_
              replace hF := obd_at hF
              obtain ⟨v35, he34, hF⟩ := hF
              refine j_calls [.int x61_7] [.int v22] E w_RX10_156 (hroom 0 1 (by decide) (by decide)) hAA (kJ6_bitCount_0f7a4 _ κ A (HS κ A s28) _  he34) (fun _ h => h) (fun _ _ _ h _ _ => h) rfl rfl (Nat.le_of_ble_eq_true rfl) d_c10_fresh_98 ⟨by rw [hR]; decide, by rw [hR]; decide⟩ ?_
              refine j_blk (pc' := 108) (lv' := [(8, .int (v22 - v35)), (5, .int (x61_5 + Int32.ofInt 1)), (0, .ref a0), (3, .int p3), (4, .int v22), (6, .int x61_6), (7, .int x61_7)]) (st' := [.int ((Int8.ofInt (-4)).toInt32), .int x61_6]) E b_c10_fresh_101_4 rfl ?_
              refine j_icmp_eq (tgt := 118) E d_c10_fresh_108 (by decide) (fun h36 => ?_) (fun h36 => ?_)
              · replace hF := g_t hF h36
                refine j_blk (pc' := 125) (lv' := [(7, .int (x61_7 + Int32.ofInt 1)), (6, .int (v22 - v35)), (8, .int (v22 - v35)), (5, .int (x61_5 + Int32.ofInt 1)), (0, .ref a0), (3, .int p3), (4, .int v22)]) (st' := []) E b_c10_fresh_118_3 rfl ?_
                refine j_goto (tgt := 61) E d_c10_fresh_125 (by decide) ?_
                refine j_lv [4, 5, 6, 3, 1, 0] rfl ?_
                exact hI _ (g_inj hF)
              · replace hF := g_f hF h36
                refine j_blk (pc' := 115) (lv' := [(8, .int (v22 - v35)), (5, .int (x61_5 + Int32.ofInt 1)), (0, .ref a0), (3, .int p3), (4, .int v22), (6, .int x61_6), (7, .int x61_7)]) (st' := [.int x61_6, .int (v22 - v35)]) E b_c10_fresh_111_2 rfl ?_
                refine j_icmp_ge (tgt := 122) E d_c10_fresh_115 (by decide) (fun h37 => ?_) (fun h37 => ?_)
                · replace hF := g_t hF h37
                  refine j_blk (pc' := 125) (lv' := [(7, .int (x61_7 + Int32.ofInt 1)), (8, .int (v22 - v35)), (5, .int (x61_5 + Int32.ofInt 1)), (0, .ref a0), (3, .int p3), (4, .int v22), (6, .int x61_6)]) (st' := []) E b_c10_fresh_122_1 rfl ?_
                  refine j_goto (tgt := 61) E d_c10_fresh_125 (by decide) ?_
                  refine j_lv [3, 4, 5, 2, 6, 0] rfl ?_
                  exact hI _ (g_inj hF)
                · replace hF := g_f hF h37
                  refine j_blk (pc' := 125) (lv' := [(7, .int (x61_7 + Int32.ofInt 1)), (6, .int (v22 - v35)), (8, .int (v22 - v35)), (5, .int (x61_5 + Int32.ofInt 1)), (0, .ref a0), (3, .int p3), (4, .int v22)]) (st' := []) E b_c10_fresh_118_3 rfl ?_
                  refine j_goto (tgt := 61) E d_c10_fresh_125 (by decide) ?_
                  refine j_lv [4, 5, 6, 3, 1, 0] rfl ?_
                  exact hI _ (g_inj hF)
        refine lpo23 FU (Int32.ofInt 0, (Int8.ofInt (-4)).toInt32, Int32.ofInt 0, s19) o23 ho23 ?_
        obtain ⟨e61_5, e61_6, t61⟩ := o23
        show J Γ 9 (HS κ A t61) 1 1 128 [(3, .int p3), (5, .int e61_5), (6, .int e61_6)] []
        refine j_blk (pc' := 129) (lv' := [(3, .int p3), (5, .int e61_5), (6, .int e61_6)]) (st' := [.int p3]) E b_c10_fresh_128_1 rfl ?_
        refine j_if_ne (tgt := 137) E d_c10_fresh_129 (by decide) (fun h38 => ?_) (fun h38 => ?_)
        · replace hF := g_f hF h38
          refine j_blk (pc' := 139) (lv' := [(3, .int p3), (5, .int e61_5), (6, .int e61_6)]) (st' := [.int e61_6]) E b_c10_fresh_137_1 rfl ?_
          have e : res = (e61_6, t61) := g_inj hF
          subst e
          refine j_wid (k' := 1) (n' := 1) (by decide) (by decide) ?_
          exact j_iret E hQ d_c10_fresh_139 (fun _ h => h)
        · replace hF := g_t hF h38
          refine j_blk (pc' := 134) (lv' := [(3, .int p3), (5, .int e61_5), (6, .int e61_6)]) (st' := [.int e61_5]) E b_c10_fresh_132_1 rfl ?_
          refine j_goto (tgt := 139) E d_c10_fresh_134 (by decide) ?_
          have e : res = (e61_5, t61) := g_inj hF
          subst e
          refine j_wid (k' := 1) (n' := 1) (by decide) (by decide) ?_
          exact j_iret E hQ d_c10_fresh_139 (fun _ h => h)
      · replace hF := g_f hF h5
        refine j_blk (pc' := 18) (lv' := [(0, .ref a0), (1, .int p1), (2, .int p2), (3, .int p3)]) (st' := [.int (Int32.ofInt (-1))]) E b_c10_fresh_17_1 rfl ?_
        have e : res = (Int32.ofInt (-1), s0) := g_inj hF
        subst e
        refine j_wid (k' := 1) (n' := 1) (by decide) (by decide) ?_
        exact j_iret E hQ d_c10_fresh_18 (fun _ h => h)
theorem b_c10_leavers_0_4 : bdec cX10_leavers 0 [.iconst 0, .istore_n 1, .iconst 0, .istore_n 2] = true := by decide +kernel
theorem b_c10_leavers_4_2 : bdec cX10_leavers 4 [.iload_n 2, .aload_n 0] = true := by decide +kernel
theorem d_c10_leavers_6 : decode cX10_leavers 6 = .ok (.getfield 23, 3) := by decide +kernel
theorem d_c10_leavers_9 : decode cX10_leavers 9 = .ok (.getfield 111, 3) := by decide +kernel
theorem d_c10_leavers_12 : decode cX10_leavers 12 = .ok (.if_icmp .ge 44, 3) := by decide +kernel
theorem b_c10_leavers_15_1 : bdec cX10_leavers 15 [.aload_n 0] = true := by decide +kernel
theorem d_c10_leavers_16 : decode cX10_leavers 16 = .ok (.getfield 27, 3) := by decide +kernel
theorem b_c10_leavers_19_1 : bdec cX10_leavers 19 [.aload_n 0] = true := by decide +kernel
theorem d_c10_leavers_20 : decode cX10_leavers 20 = .ok (.getfield 23, 3) := by decide +kernel
theorem d_c10_leavers_23 : decode cX10_leavers 23 = .ok (.invokevirtual 63, 3) := by decide +kernel
theorem b_c10_leavers_26_1 : bdec cX10_leavers 26 [.aload_n 0] = true := by decide +kernel
theorem d_c10_leavers_27 : decode cX10_leavers 27 = .ok (.getfield 27, 3) := by decide +kernel
theorem b_c10_leavers_30_1 : bdec cX10_leavers 30 [.iload_n 2] = true := by decide +kernel
theorem d_c10_leavers_31 : decode cX10_leavers 31 = .ok (.invokevirtual 175, 3) := by decide +kernel
theorem b_c10_leavers_34_1 : bdec cX10_leavers 34 [.aload_n 0] = true := by decide +kernel
theorem d_c10_leavers_35 : decode cX10_leavers 35 = .ok (.getfield 27, 3) := by decide +kernel
theorem d_c10_leavers_38 : decode cX10_leavers 38 = .ok (.invokevirtual 133, 3) := by decide +kernel
theorem d_c10_leavers_41 : decode cX10_leavers 41 = .ok (.ifCond .eq 9, 3) := by decide +kernel
theorem b_c10_leavers_50_1 : bdec cX10_leavers 50 [.iinc 2 1] = true := by decide +kernel
theorem d_c10_leavers_53 : decode cX10_leavers 53 = .ok (.goto (-49), 3) := by decide +kernel
theorem b_c10_leavers_44_7 : bdec cX10_leavers 44 [.iload_n 1, .iconst 1, .iload_n 2, .ishl, .ior, .istore_n 1, .iinc 2 1] = true := by decide +kernel
theorem b_c10_leavers_56_1 : bdec cX10_leavers 56 [.iload_n 1] = true := by decide +kernel
theorem d_c10_leavers_57 : decode cX10_leavers 57 = .ok (.ireturn, 1) := by decide +kernel
def f10_leavers_L4 (a0 : Nat) (w : Int32 × Int32 × HM) : Option ((Int32 × Int32 × HM) ⊕ (Int32 × HM)) := match w with
  | (x4_1, x4_2, s4) => obd (hfld s4 [10] 1 a0) (fun v2 => orf v2 (fun b3 => obd (hfi s4 [2] 2 b3) (fun v4 => if v4 ≤ x4_2 then (some (.inr (x4_1, s4))) else (obd (hfld s4 [10] 2 a0) (fun v6 => obd (hfld s4 [10] 1 a0) (fun v7 => orf v7 (fun b8 => orf v6 (fun b9 => ocl s4 b9 2 (obd (f2_become s4 b9 b8) (fun s11 => obd (hfld s11 [10] 2 a0) (fun v12 => orf v12 (fun b13 => ocl s11 b13 2 (obd (f2_unseat s11 b13 x4_2) (fun s15 => obd (hfld s15 [10] 2 a0) (fun v16 => orf v16 (fun b17 => ocl s15 b17 2 (obd (f2_isLawful s15 b17) (fun v19 => if v19 = 0 then (some (.inl (x4_1, x4_2 + Int32.ofInt 1, s15))) else (some (.inl (x4_1 ||| ((Int32.ofInt 1) <<< (x4_2 &&& 31)), x4_2 + Int32.ofInt 1, s15)))))))))))))))))))))
def f10_leavers (s0 : HM) (a0 : Nat) : Option (Int32 × HM) := obd (iter (f10_leavers_L4 a0) FU (Int32.ofInt 0, Int32.ofInt 0, s0)) (fun o1 => match o1 with | (e4_1, t4) => some (e4_1, t4))
set_option maxRecDepth 100000 in
set_option maxHeartbeats 4000000 in
theorem c10_leavers (l : Launch) (κ : KP) (A : Nat → Prop) (s0 : HM) (a0 : Nat) {res : Int32 × HM} (hF : f10_leavers s0 a0 = some res) : Met l yX10_leavers (Cond.code yX10_leavers cX10_leavers 3 (some .int) :: WT) (rmL 5 0 0) (PP κ A [.ref a0] (HS κ A s0)) (QQ (some (.int res.1)) (HS κ A res.2) A) 0 0 A := by
  refine met_of (own := RX10) (by decide) rfl (Nat.le_of_ble_eq_true rfl) ?_
  intro Γ E hQ hL hR hA hent hini
  have hAA : ∀ q, A q → jA Γ q := fun q h => by rw [hA]; exact h
  have hroom : ∀ (d mL : Nat) {mc ms : Nat}, d < 5 → mL ≤ 21 → (rmL d mc ms).frames + 1 ≤ (jR Γ).frames ∧ 8 + (mL + 11) + (rmL d mc ms).locals ≤ (jR Γ).locals := fun d mL mc ms h1 h2 => by rw [hR]; exact rmL_le h1 h2
  show J Γ 3 (HS κ A s0) 0 0 0 [(0, .ref a0)] []
  unfold f10_leavers at hF
  refine j_blk (pc' := 4) (lv' := [(2, .int (Int32.ofInt 0)), (1, .int (Int32.ofInt 0)), (0, .ref a0)]) (st' := []) E b_c10_leavers_0_4 rfl ?_
  refine j_lv [2, 1, 0] rfl ?_
  replace hF := obd_at hF
  obtain ⟨o1, ho1, hF⟩ := hF
  have lpo1 : ∀ (fu : Nat) (w : Int32 × Int32 × HM) (o : Int32 × HM), iter (f10_leavers_L4 a0) fu w = some o → (fun (o : Int32 × HM) => J Γ 3 (HS κ A o.2) 0 0 56 [(1, .int o.1)] []) o → (fun (w : Int32 × Int32 × HM) => J Γ 3 (HS κ A w.2.2) 0 0 4 [(0, .ref a0), (1, .int w.1), (2, .int w.2.1)] []) w := by
    refine j_iter (P := fun (w : Int32 × Int32 × HM) => J Γ 3 (HS κ A w.2.2) 0 0 4 [(0, .ref a0), (1, .int w.1), (2, .int w.2.1)] []) (G := fun (o : Int32 × HM) => J Γ 3 (HS κ A o.2) 0 0 56 [(1, .int o.1)] []) ?_
    rintro ⟨x4_1, x4_2, s4⟩ q hF hI hO
    show J Γ 3 (HS κ A s4) 0 0 4 [(0, .ref a0), (1, .int x4_1), (2, .int x4_2)] []
    unfold f10_leavers_L4 at hF
    refine j_blk (pc' := 6) (lv' := [(0, .ref a0), (1, .int x4_1), (2, .int x4_2)]) (st' := [.ref a0, .int x4_2]) E b_c10_leavers_4_2 rfl ?_
    replace hF := obd_at hF
    obtain ⟨v2, ev2, hF⟩ := hF
    refine j_getf E fg_RX10_23 d_c10_leavers_6 ev2 ?_
    replace hF := orf_at hF
    obtain ⟨b3, rfl, hF⟩ := hF
    replace hF := obd_at hF
    obtain ⟨v4, ev4, hF⟩ := hF
    refine j_getI E fg_RX10_111 d_c10_leavers_9 ev4 ?_
    refine j_icmp_ge (tgt := 56) E d_c10_leavers_12 (by decide) (fun h5 => ?_) (fun h5 => ?_)
    · replace hF := g_t hF h5
      refine j_lv [1] rfl ?_
      exact hO _ (g_inj hF)
    · replace hF := g_f hF h5
      refine j_blk (pc' := 16) (lv' := [(0, .ref a0), (1, .int x4_1), (2, .int x4_2)]) (st' := [.ref a0]) E b_c10_leavers_15_1 rfl ?_
      replace hF := obd_at hF
      obtain ⟨v6, ev6, hF⟩ := hF
      refine j_getf E fg_RX10_27 d_c10_leavers_16 ev6 ?_
      refine j_blk (pc' := 20) (lv' := [(0, .ref a0), (1, .int x4_1), (2, .int x4_2)]) (st' := [.ref a0, v6]) E b_c10_leavers_19_1 rfl ?_
      replace hF := obd_at hF
      obtain ⟨v7, ev7, hF⟩ := hF
      refine j_getf E fg_RX10_23 d_c10_leavers_20 ev7 ?_
      replace hF := orf_at hF
      obtain ⟨b8, rfl, hF⟩ := hF
      replace hF := orf_at hF
      obtain ⟨b9, rfl, hF⟩ := hF
      replace hF := ocl_at hF
      obtain ⟨hc, hF⟩ := hF
      replace hF := obd_at hF
      obtain ⟨s11, he10, hF⟩ := hF
      refine j_callv [.ref b8] [] E w_RX10_63 (hroom 0 3 (by decide) (by decide)) hAA (c2_become _ κ A _ _ _  he10) (fun _ h => h) (fun _ _ _ h _ _ => h) (fun _ h => j_recv E h hc rfl) rfl rfl (Nat.le_of_ble_eq_true rfl) d_c10_leavers_23 ⟨Nat.zero_le _, Nat.zero_le _⟩ ?_
      refine j_blk (pc' := 27) (lv' := [(0, .ref a0), (1, .int x4_1), (2, .int x4_2)]) (st' := [.ref a0]) E b_c10_leavers_26_1 rfl ?_
      replace hF := obd_at hF
      obtain ⟨v12, ev12, hF⟩ := hF
      refine j_getf E fg_RX10_27 d_c10_leavers_27 ev12 ?_
      refine j_blk (pc' := 31) (lv' := [(0, .ref a0), (1, .int x4_1), (2, .int x4_2)]) (st' := [.int x4_2, v12]) E b_c10_leavers_30_1 rfl ?_
      replace hF := orf_at hF
      obtain ⟨b13, rfl, hF⟩ := hF
      replace hF := ocl_at hF
      obtain ⟨hc, hF⟩ := hF
      replace hF := obd_at hF
      obtain ⟨s15, he14, hF⟩ := hF
      refine j_callv [.int x4_2] [] E w_RX10_175 (hroom 1 4 (by decide) (by decide)) hAA (c2_unseat _ κ A _ _ _  he14) (fun _ h => h) (fun _ _ _ h _ _ => h) (fun _ h => j_recv E h hc rfl) rfl rfl (Nat.le_of_ble_eq_true rfl) d_c10_leavers_31 ⟨Nat.zero_le _, Nat.zero_le _⟩ ?_
      refine j_blk (pc' := 35) (lv' := [(0, .ref a0), (1, .int x4_1), (2, .int x4_2)]) (st' := [.ref a0]) E b_c10_leavers_34_1 rfl ?_
      replace hF := obd_at hF
      obtain ⟨v16, ev16, hF⟩ := hF
      refine j_getf E fg_RX10_27 d_c10_leavers_35 ev16 ?_
      replace hF := orf_at hF
      obtain ⟨b17, rfl, hF⟩ := hF
      replace hF := ocl_at hF
      obtain ⟨hc, hF⟩ := hF
      replace hF := obd_at hF
      obtain ⟨v19, he18, hF⟩ := hF
      refine j_callv [] [] E w_RX10_133 (hroom 4 1 (by decide) (by decide)) hAA (c2_isLawful _ κ A _ _  he18) (fun _ h => h) (fun _ _ _ h _ _ => h) (fun _ h => j_recv E h hc rfl) rfl rfl (Nat.le_of_ble_eq_true rfl) d_c10_leavers_38 ⟨Nat.zero_le _, Nat.zero_le _⟩ ?_
      refine j_if_eq (tgt := 50) E d_c10_leavers_41 (by decide) (fun h20 => ?_) (fun h20 => ?_)
      · replace hF := g_t hF h20
        refine j_blk (pc' := 53) (lv' := [(2, .int (x4_2 + Int32.ofInt 1)), (0, .ref a0), (1, .int x4_1)]) (st' := []) E b_c10_leavers_50_1 rfl ?_
        refine j_goto (tgt := 4) E d_c10_leavers_53 (by decide) ?_
        refine j_lv [1, 2, 0] rfl ?_
        exact hI _ (g_inj hF)
      · replace hF := g_f hF h20
        refine j_blk (pc' := 53) (lv' := [(2, .int (x4_2 + Int32.ofInt 1)), (1, .int (x4_1 ||| ((Int32.ofInt 1) <<< (x4_2 &&& 31)))), (0, .ref a0)]) (st' := []) E b_c10_leavers_44_7 rfl ?_
        refine j_goto (tgt := 4) E d_c10_leavers_53 (by decide) ?_
        refine j_lv [2, 1, 0] rfl ?_
        exact hI _ (g_inj hF)
  refine lpo1 FU (Int32.ofInt 0, Int32.ofInt 0, s0) o1 ho1 ?_
  obtain ⟨e4_1, t4⟩ := o1
  show J Γ 3 (HS κ A t4) 0 0 56 [(1, .int e4_1)] []
  refine j_blk (pc' := 57) (lv' := [(1, .int e4_1)]) (st' := [.int e4_1]) E b_c10_leavers_56_1 rfl ?_
  have e : res = (e4_1, t4) := g_inj hF
  subst e
  exact j_iret E hQ d_c10_leavers_57 (fun _ h => h)
theorem b_c10_odds_0_1 : bdec cX10_odds 0 [.iload_n 1] = true := by decide +kernel
theorem d_c10_odds_1 : decode cX10_odds 1 = .ok (.ifCond .lt 8, 3) := by decide +kernel
theorem d_c10_odds_9 : decode cX10_odds 9 = .ok (.ldc2_w 178, 3) := by decide +kernel
theorem d_c10_odds_12 : decode cX10_odds 12 = .ok (.lreturn, 1) := by decide +kernel
theorem b_c10_odds_4_2 : bdec cX10_odds 4 [.iload_n 1, .iconst 1] = true := by decide +kernel
theorem d_c10_odds_6 : decode cX10_odds 6 = .ok (.if_icmp .le 7, 3) := by decide +kernel
theorem b_c10_odds_13_1 : bdec cX10_odds 13 [.aload_n 0] = true := by decide +kernel
theorem d_c10_odds_14 : decode cX10_odds 14 = .ok (.getfield 23, 3) := by decide +kernel
theorem d_c10_odds_17 : decode cX10_odds 17 = .ok (.getfield 111, 3) := by decide +kernel
theorem b_c10_odds_20_1 : bdec cX10_odds 20 [.iconst 4] = true := by decide +kernel
theorem d_c10_odds_21 : decode cX10_odds 21 = .ok (.if_icmp .le 7, 3) := by decide +kernel
theorem b_c10_odds_28_1 : bdec cX10_odds 28 [.aload_n 0] = true := by decide +kernel
theorem d_c10_odds_29 : decode cX10_odds 29 = .ok (.getfield 27, 3) := by decide +kernel
theorem b_c10_odds_32_1 : bdec cX10_odds 32 [.aload_n 0] = true := by decide +kernel
theorem d_c10_odds_33 : decode cX10_odds 33 = .ok (.getfield 23, 3) := by decide +kernel
theorem d_c10_odds_36 : decode cX10_odds 36 = .ok (.invokevirtual 63, 3) := by decide +kernel
theorem b_c10_odds_39_6 : bdec cX10_odds 39 [.lconst 0, .lstore_n 2, .lconst 0, .lstore 4, .iconst 0, .istore 6] = true := by decide +kernel
theorem b_c10_odds_47_3 : bdec cX10_odds 47 [.iload 6, .iconst 1, .aload_n 0] = true := by decide +kernel
theorem d_c10_odds_51 : decode cX10_odds 51 = .ok (.getfield 27, 3) := by decide +kernel
theorem d_c10_odds_54 : decode cX10_odds 54 = .ok (.invokevirtual 147, 3) := by decide +kernel
theorem b_c10_odds_57_1 : bdec cX10_odds 57 [.ishl] = true := by decide +kernel
theorem d_c10_odds_58 : decode cX10_odds 58 = .ok (.if_icmp .ge 49, 3) := by decide +kernel
theorem b_c10_odds_61_1 : bdec cX10_odds 61 [.aload_n 0] = true := by decide +kernel
theorem d_c10_odds_62 : decode cX10_odds 62 = .ok (.getfield 27, 3) := by decide +kernel
theorem b_c10_odds_65_1 : bdec cX10_odds 65 [.iload 6] = true := by decide +kernel
theorem d_c10_odds_67 : decode cX10_odds 67 = .ok (.invokevirtual 182, 3) := by decide +kernel
theorem b_c10_odds_70_1 : bdec cX10_odds 70 [.aload_n 0] = true := by decide +kernel
theorem d_c10_odds_71 : decode cX10_odds 71 = .ok (.getfield 27, 3) := by decide +kernel
theorem d_c10_odds_74 : decode cX10_odds 74 = .ok (.invokevirtual 185, 3) := by decide +kernel
theorem b_c10_odds_77_6 : bdec cX10_odds 77 [.lstore 7, .lload 4, .lload 7, .ladd, .lstore 4, .aload_n 0] = true := by decide +kernel
theorem d_c10_odds_87 : decode cX10_odds 87 = .ok (.getfield 27, 3) := by decide +kernel
theorem d_c10_odds_90 : decode cX10_odds 90 = .ok (.invokevirtual 133, 3) := by decide +kernel
theorem d_c10_odds_93 : decode cX10_odds 93 = .ok (.ifCond .eq 8, 3) := by decide +kernel
theorem b_c10_odds_101_1 : bdec cX10_odds 101 [.iinc 6 1] = true := by decide +kernel
theorem d_c10_odds_104 : decode cX10_odds 104 = .ok (.goto (-57), 3) := by decide +kernel
theorem b_c10_odds_96_5 : bdec cX10_odds 96 [.lload_n 2, .lload 7, .ladd, .lstore_n 2, .iinc 6 1] = true := by decide +kernel
theorem b_c10_odds_107_2 : bdec cX10_odds 107 [.lload_n 2, .lload 4] = true := by decide +kernel
theorem d_c10_odds_110 : decode cX10_odds 110 = .ok (.invokestatic 189, 3) := by decide +kernel
theorem b_c10_odds_113_2 : bdec cX10_odds 113 [.lstore 6, .iload_n 1] = true := by decide +kernel
theorem d_c10_odds_116 : decode cX10_odds 116 = .ok (.ifCond .ne 7, 3) := by decide +kernel
theorem b_c10_odds_125_4 : bdec cX10_odds 125 [.lstore 8, .lload 6, .lconst 1, .lcmp] = true := by decide +kernel
theorem d_c10_odds_131 : decode cX10_odds 131 = .ok (.ifCond .le 11, 3) := by decide +kernel
theorem b_c10_odds_142_1 : bdec cX10_odds 142 [.lload 8] = true := by decide +kernel
theorem d_c10_odds_144 : decode cX10_odds 144 = .ok (.lreturn, 1) := by decide +kernel
theorem b_c10_odds_134_2 : bdec cX10_odds 134 [.lload 8, .lload 6] = true := by decide +kernel
theorem d_c10_odds_138 : decode cX10_odds 138 = .ok (.ldiv, 1) := by decide +kernel
theorem d_c10_odds_139 : decode cX10_odds 139 = .ok (.goto 5, 3) := by decide +kernel
theorem b_c10_odds_123_1 : bdec cX10_odds 123 [.lload 4] = true := by decide +kernel
theorem b_c10_odds_119_1 : bdec cX10_odds 119 [.lload_n 2] = true := by decide +kernel
theorem d_c10_odds_120 : decode cX10_odds 120 = .ok (.goto 5, 3) := by decide +kernel
theorem d_c10_odds_24 : decode cX10_odds 24 = .ok (.ldc2_w 180, 3) := by decide +kernel
theorem d_c10_odds_27 : decode cX10_odds 27 = .ok (.lreturn, 1) := by decide +kernel
def f10_odds_L47 (a0 : Nat) (p1 : Int32) (w : Int64 × Int64 × Int32 × HM) : Option ((Int64 × Int64 × Int32 × HM) ⊕ (Int64 × Int64 × HM)) := match w with
  | (x47_2, x47_4, x47_6, s47) => obd (hfld s47 [10] 2 a0) (fun v14 => orf v14 (fun b15 => ocl s47 b15 2 (obd (f2_matches s47 b15) (fun v17 => if ((Int32.ofInt 1) <<< (v17 &&& 31)) ≤ x47_6 then (some (.inr (x47_2, x47_4, s47))) else (obd (hfld s47 [10] 2 a0) (fun v19 => orf v19 (fun b20 => ocl s47 b20 2 (obd (f2_play s47 b20 x47_6) (fun s22 => obd (hfld s22 [10] 2 a0) (fun v23 => orf v23 (fun b24 => ocl s22 b24 2 (obd (f2_weight s22 b24) (fun v26 => obd (hfld s22 [10] 2 a0) (fun v27 => orf v27 (fun b28 => ocl s22 b28 2 (obd (f2_isLawful s22 b28) (fun v30 => if v30 = 0 then (some (.inl (x47_2, x47_4 + v26, x47_6 + Int32.ofInt 1, s22))) else (some (.inl (x47_2 + v26, x47_4 + v26, x47_6 + Int32.ofInt 1, s22))))))))))))))))))))
def f10_odds_K125 (t47 : HM) (v33 : Int64) (k125_t0 : Int64) : Option (Int64 × HM) := if (lg_cmp v33 (Int64.ofNat 1)) ≤ 0 then (some (k125_t0, t47)) else (onzl v33 (some (k125_t0 / v33, t47)))
def f10_odds (s0 : HM) (a0 : Nat) (p1 : Int32) : Option (Int64 × HM) := if p1 < 0 then (some ((-1000000001), s0)) else (if p1 ≤ (Int32.ofInt 1) then (obd (hfld s0 [10] 1 a0) (fun v3 => orf v3 (fun b4 => obd (hfi s0 [2] 2 b4) (fun v5 => if v5 ≤ (Int32.ofInt 4) then (obd (hfld s0 [10] 2 a0) (fun v7 => obd (hfld s0 [10] 1 a0) (fun v8 => orf v8 (fun b9 => orf v7 (fun b10 => ocl s0 b10 2 (obd (f2_become s0 b10 b9) (fun s12 => obd (iter (f10_odds_L47 a0 p1) FU (Int64.ofNat 0, Int64.ofNat 0, Int32.ofInt 0, s12)) (fun o13 => match o13 with | (e47_2, e47_4, t47) => obd (f10_commonDivisor e47_2 e47_4) (fun v33 => if p1 = 0 then (f10_odds_K125 t47 v33 e47_2) else (f10_odds_K125 t47 v33 e47_4)))))))))) else (some ((-1000000003), s0)))))) else (some ((-1000000001), s0)))
set_option maxRecDepth 100000 in
set_option maxHeartbeats 4000000 in
theorem c10_odds (l : Launch) (κ : KP) (A : Nat → Prop) (s0 : HM) (a0 : Nat) (p1 : Int32) {res : Int64 × HM} (hF : f10_odds s0 a0 p1 = some res) : Met l yX10_odds (Cond.code yX10_odds cX10_odds 10 (some .long) :: WT) (rmL 5 0 0) (PP κ A [.ref a0, .int p1] (HS κ A s0)) (QQ (some (.long res.1)) (HS κ A res.2) A) 0 0 A := by
  refine met_of (own := RX10) (by decide) rfl (Nat.le_of_ble_eq_true rfl) ?_
  intro Γ E hQ hL hR hA hent hini
  have hAA : ∀ q, A q → jA Γ q := fun q h => by rw [hA]; exact h
  have hroom : ∀ (d mL : Nat) {mc ms : Nat}, d < 5 → mL ≤ 21 → (rmL d mc ms).frames + 1 ≤ (jR Γ).frames ∧ 8 + (mL + 11) + (rmL d mc ms).locals ≤ (jR Γ).locals := fun d mL mc ms h1 h2 => by rw [hR]; exact rmL_le h1 h2
  show J Γ 10 (HS κ A s0) 0 0 0 [(0, .ref a0), (1, .int p1)] []
  unfold f10_odds at hF
  refine j_blk (pc' := 1) (lv' := [(0, .ref a0), (1, .int p1)]) (st' := [.int p1]) E b_c10_odds_0_1 rfl ?_
  refine j_if_lt (tgt := 9) E d_c10_odds_1 (by decide) (fun h1 => ?_) (fun h1 => ?_)
  · replace hF := g_t hF h1
    refine j_ldc2 (u := (-1000000001)) E d_c10_odds_9 m_524 ?_
    have e : res = ((-1000000001), s0) := g_inj hF
    subst e
    exact j_lret E hQ d_c10_odds_12 (fun _ h => h)
  · replace hF := g_f hF h1
    refine j_blk (pc' := 6) (lv' := [(0, .ref a0), (1, .int p1)]) (st' := [.int (Int32.ofInt 1), .int p1]) E b_c10_odds_4_2 rfl ?_
    refine j_icmp_le (tgt := 13) E d_c10_odds_6 (by decide) (fun h2 => ?_) (fun h2 => ?_)
    · replace hF := g_t hF h2
      refine j_blk (pc' := 14) (lv' := [(0, .ref a0), (1, .int p1)]) (st' := [.ref a0]) E b_c10_odds_13_1 rfl ?_
      replace hF := obd_at hF
      obtain ⟨v3, ev3, hF⟩ := hF
      refine j_getf E fg_RX10_23 d_c10_odds_14 ev3 ?_
      replace hF := orf_at hF
      obtain ⟨b4, rfl, hF⟩ := hF
      replace hF := obd_at hF
      obtain ⟨v5, ev5, hF⟩ := hF
      refine j_getI E fg_RX10_111 d_c10_odds_17 ev5 ?_
      refine j_blk (pc' := 21) (lv' := [(0, .ref a0), (1, .int p1)]) (st' := [.int (Int32.ofInt 4), .int v5]) E b_c10_odds_20_1 rfl ?_
      refine j_icmp_le (tgt := 28) E d_c10_odds_21 (by decide) (fun h6 => ?_) (fun h6 => ?_)
      · replace hF := g_t hF h6
        refine j_blk (pc' := 29) (lv' := [(0, .ref a0), (1, .int p1)]) (st' := [.ref a0]) E b_c10_odds_28_1 rfl ?_
        replace hF := obd_at hF
        obtain ⟨v7, ev7, hF⟩ := hF
        refine j_getf E fg_RX10_27 d_c10_odds_29 ev7 ?_
        refine j_blk (pc' := 33) (lv' := [(0, .ref a0), (1, .int p1)]) (st' := [.ref a0, v7]) E b_c10_odds_32_1 rfl ?_
        replace hF := obd_at hF
        obtain ⟨v8, ev8, hF⟩ := hF
        refine j_getf E fg_RX10_23 d_c10_odds_33 ev8 ?_
        replace hF := orf_at hF
        obtain ⟨b9, rfl, hF⟩ := hF
        replace hF := orf_at hF
        obtain ⟨b10, rfl, hF⟩ := hF
        replace hF := ocl_at hF
        obtain ⟨hc, hF⟩ := hF
        replace hF := obd_at hF
        obtain ⟨s12, he11, hF⟩ := hF
        refine j_callv [.ref b9] [] E w_RX10_63 (hroom 0 3 (by decide) (by decide)) hAA (c2_become _ κ A _ _ _  he11) (fun _ h => h) (fun _ _ _ h _ _ => h) (fun _ h => j_recv E h hc rfl) rfl rfl (Nat.le_of_ble_eq_true rfl) d_c10_odds_36 ⟨Nat.zero_le _, Nat.zero_le _⟩ ?_
        refine j_blk (pc' := 47) (lv' := [(6, .int (Int32.ofInt 0)), (4, .long (Int64.ofNat 0)), (2, .long (Int64.ofNat 0)), (0, .ref a0), (1, .int p1)]) (st' := []) E b_c10_odds_39_6 rfl ?_
        refine j_lv [3, 4, 2, 1, 0] rfl ?_
        replace hF := obd_at hF
        obtain ⟨o13, ho13, hF⟩ := hF
        have lpo13 : ∀ (fu : Nat) (w : Int64 × Int64 × Int32 × HM) (o : Int64 × Int64 × HM), iter (f10_odds_L47 a0 p1) fu w = some o → (fun (o : Int64 × Int64 × HM) => J Γ 10 (HS κ A o.2.2) 0 0 107 [(1, .int p1), (2, .long o.1), (4, .long o.2.1)] []) o → (fun (w : Int64 × Int64 × Int32 × HM) => J Γ 10 (HS κ A w.2.2.2) 0 0 47 [(0, .ref a0), (1, .int p1), (2, .long w.1), (4, .long w.2.1), (6, .int w.2.2.1)] []) w := by
          refine j_iter (P := fun (w : Int64 × Int64 × Int32 × HM) => J Γ 10 (HS κ A w.2.2.2) 0 0 47 [(0, .ref a0), (1, .int p1), (2, .long w.1), (4, .long w.2.1), (6, .int w.2.2.1)] []) (G := fun (o : Int64 × Int64 × HM) => J Γ 10 (HS κ A o.2.2) 0 0 107 [(1, .int p1), (2, .long o.1), (4, .long o.2.1)] []) ?_
          rintro ⟨x47_2, x47_4, x47_6, s47⟩ q hF hI hO
          show J Γ 10 (HS κ A s47) 0 0 47 [(0, .ref a0), (1, .int p1), (2, .long x47_2), (4, .long x47_4), (6, .int x47_6)] []
          unfold f10_odds_L47 at hF
          refine j_blk (pc' := 51) (lv' := [(0, .ref a0), (1, .int p1), (2, .long x47_2), (4, .long x47_4), (6, .int x47_6)]) (st' := [.ref a0, .int (Int32.ofInt 1), .int x47_6]) E b_c10_odds_47_3 rfl ?_
          replace hF := obd_at hF
          obtain ⟨v14, ev14, hF⟩ := hF
          refine j_getf E fg_RX10_27 d_c10_odds_51 ev14 ?_
          replace hF := orf_at hF
          obtain ⟨b15, rfl, hF⟩ := hF
          replace hF := ocl_at hF
          obtain ⟨hc, hF⟩ := hF
          replace hF := obd_at hF
          obtain ⟨v17, he16, hF⟩ := hF
          refine j_callv [] [.int (Int32.ofInt 1), .int x47_6] E w_RX10_147 (hroom 0 1 (by decide) (by decide)) hAA (c2_matches _ κ A _ _  he16) (fun _ h => h) (fun _ _ _ h _ _ => h) (fun _ h => j_recv E h hc rfl) rfl rfl (Nat.le_of_ble_eq_true rfl) d_c10_odds_54 ⟨Nat.zero_le _, Nat.zero_le _⟩ ?_
          refine j_blk (pc' := 58) (lv' := [(0, .ref a0), (1, .int p1), (2, .long x47_2), (4, .long x47_4), (6, .int x47_6)]) (st' := [.int ((Int32.ofInt 1) <<< (v17 &&& 31)), .int x47_6]) E b_c10_odds_57_1 rfl ?_
          refine j_icmp_ge (tgt := 107) E d_c10_odds_58 (by decide) (fun h18 => ?_) (fun h18 => ?_)
          · replace hF := g_t hF h18
            refine j_lv [1, 2, 3] rfl ?_
            exact hO _ (g_inj hF)
          · replace hF := g_f hF h18
            refine j_blk (pc' := 62) (lv' := [(0, .ref a0), (1, .int p1), (2, .long x47_2), (4, .long x47_4), (6, .int x47_6)]) (st' := [.ref a0]) E b_c10_odds_61_1 rfl ?_
            replace hF := obd_at hF
            obtain ⟨v19, ev19, hF⟩ := hF
            refine j_getf E fg_RX10_27 d_c10_odds_62 ev19 ?_
            refine j_blk (pc' := 67) (lv' := [(0, .ref a0), (1, .int p1), (2, .long x47_2), (4, .long x47_4), (6, .int x47_6)]) (st' := [.int x47_6, v19]) E b_c10_odds_65_1 rfl ?_
            replace hF := orf_at hF
            obtain ⟨b20, rfl, hF⟩ := hF
            replace hF := ocl_at hF
            obtain ⟨hc, hF⟩ := hF
            replace hF := obd_at hF
            obtain ⟨s22, he21, hF⟩ := hF
            refine j_callv [.int x47_6] [] E w_RX10_182 (hroom 1 3 (by decide) (by decide)) hAA (c2_play _ κ A _ _ _  he21) (fun _ h => h) (fun _ _ _ h _ _ => h) (fun _ h => j_recv E h hc rfl) rfl rfl (Nat.le_of_ble_eq_true rfl) d_c10_odds_67 ⟨Nat.zero_le _, Nat.zero_le _⟩ ?_
            refine j_blk (pc' := 71) (lv' := [(0, .ref a0), (1, .int p1), (2, .long x47_2), (4, .long x47_4), (6, .int x47_6)]) (st' := [.ref a0]) E b_c10_odds_70_1 rfl ?_
            replace hF := obd_at hF
            obtain ⟨v23, ev23, hF⟩ := hF
            refine j_getf E fg_RX10_27 d_c10_odds_71 ev23 ?_
            replace hF := orf_at hF
            obtain ⟨b24, rfl, hF⟩ := hF
            replace hF := ocl_at hF
            obtain ⟨hc, hF⟩ := hF
            replace hF := obd_at hF
            obtain ⟨v26, he25, hF⟩ := hF
            refine j_callv [] [] E w_RX10_185 (hroom 3 6 (by decide) (by decide)) hAA (c2_weight _ κ A _ _  he25) (fun _ h => h) (fun _ _ _ h _ _ => h) (fun _ h => j_recv E h hc rfl) rfl rfl (Nat.le_of_ble_eq_true rfl) d_c10_odds_74 ⟨Nat.zero_le _, Nat.zero_le _⟩ ?_
            refine j_blk (pc' := 87) (lv' := [(4, .long (x47_4 + v26)), (7, .long v26), (0, .ref a0), (1, .int p1), (2, .long x47_2), (6, .int x47_6)]) (st' := [.ref a0]) E b_c10_odds_77_6 rfl ?_
            replace hF := obd_at hF
            obtain ⟨v27, ev27, hF⟩ := hF
            refine j_getf E fg_RX10_27 d_c10_odds_87 ev27 ?_
            replace hF := orf_at hF
            obtain ⟨b28, rfl, hF⟩ := hF
            replace hF := ocl_at hF
            obtain ⟨hc, hF⟩ := hF
            replace hF := obd_at hF
            obtain ⟨v30, he29, hF⟩ := hF
            refine j_callv [] [] E w_RX10_133 (hroom 4 1 (by decide) (by decide)) hAA (c2_isLawful _ κ A _ _  he29) (fun _ h => h) (fun _ _ _ h _ _ => h) (fun _ h => j_recv E h hc rfl) rfl rfl (Nat.le_of_ble_eq_true rfl) d_c10_odds_90 ⟨Nat.zero_le _, Nat.zero_le _⟩ ?_
            refine j_if_eq (tgt := 101) E d_c10_odds_93 (by decide) (fun h31 => ?_) (fun h31 => ?_)
            · replace hF := g_t hF h31
              refine j_blk (pc' := 104) (lv' := [(6, .int (x47_6 + Int32.ofInt 1)), (4, .long (x47_4 + v26)), (7, .long v26), (0, .ref a0), (1, .int p1), (2, .long x47_2)]) (st' := []) E b_c10_odds_101_1 rfl ?_
              refine j_goto (tgt := 47) E d_c10_odds_104 (by decide) ?_
              refine j_lv [3, 4, 5, 1, 0] rfl ?_
              exact hI _ (g_inj hF)
            · replace hF := g_f hF h31
              refine j_blk (pc' := 104) (lv' := [(6, .int (x47_6 + Int32.ofInt 1)), (2, .long (x47_2 + v26)), (4, .long (x47_4 + v26)), (7, .long v26), (0, .ref a0), (1, .int p1)]) (st' := []) E b_c10_odds_96_5 rfl ?_
              refine j_goto (tgt := 47) E d_c10_odds_104 (by decide) ?_
              refine j_lv [4, 5, 1, 2, 0] rfl ?_
              exact hI _ (g_inj hF)
        refine lpo13 FU (Int64.ofNat 0, Int64.ofNat 0, Int32.ofInt 0, s12) o13 ho13 ?_
        obtain ⟨e47_2, e47_4, t47⟩ := o13
        show J Γ 10 (HS κ A t47) 0 0 107 [(1, .int p1), (2, .long e47_2), (4, .long e47_4)] []
        refine j_blk (pc' := 110) (lv' := [(1, .int p1), (2, .long e47_2), (4, .long e47_4)]) (st' := [.long e47_4, .long e47_2]) E b_c10_odds_107_2 rfl ?_
        replace hF := obd_at hF
        obtain ⟨v33, he32, hF⟩ := hF
        refine j_calls [.long e47_2, .long e47_4] [] E w_RX10_189 (hroom 0 11 (by decide) (by decide)) hAA (c10_commonDivisor _ κ A (HS κ A t47) _ _  he32) (fun _ h => h) (fun _ _ _ h _ _ => h) rfl rfl (Nat.le_of_ble_eq_true rfl) d_c10_odds_110 ⟨Nat.zero_le _, Nat.zero_le _⟩ ?_
        refine j_blk (pc' := 116) (lv' := [(6, .long v33), (1, .int p1), (2, .long e47_2), (4, .long e47_4)]) (st' := [.int p1]) E b_c10_odds_113_2 rfl ?_
        have kp125 : ∀ (k125_t0 : Int64), f10_odds_K125 t47 v33 k125_t0 = some res → J Γ 10 (HS κ A t47) 0 0 125 [(6, .long v33)] [.long k125_t0] := by
          intro k125_t0 hF
          unfold f10_odds_K125 at hF
          refine j_blk (pc' := 131) (lv' := [(8, .long k125_t0), (6, .long v33)]) (st' := [.int (lg_cmp v33 (Int64.ofNat 1))]) E b_c10_odds_125_4 rfl ?_
          refine j_if_le (tgt := 142) E d_c10_odds_131 (by decide) (fun h34 => ?_) (fun h34 => ?_)
          · replace hF := g_t hF h34
            refine j_blk (pc' := 144) (lv' := [(8, .long k125_t0), (6, .long v33)]) (st' := [.long k125_t0]) E b_c10_odds_142_1 rfl ?_
            have e : res = (k125_t0, t47) := g_inj hF
            subst e
            exact j_lret E hQ d_c10_odds_144 (fun _ h => h)
          · replace hF := g_f hF h34
            refine j_blk (pc' := 138) (lv' := [(8, .long k125_t0), (6, .long v33)]) (st' := [.long v33, .long k125_t0]) E b_c10_odds_134_2 rfl ?_
            replace hF := onzl_at hF
            obtain ⟨h0, hF⟩ := hF
            refine j_ldiv E d_c10_odds_138 h0 ?_
            refine j_goto (tgt := 144) E d_c10_odds_139 (by decide) ?_
            have e : res = (k125_t0 / v33, t47) := g_inj hF
            subst e
            exact j_lret E hQ d_c10_odds_144 (fun _ h => h)
        refine j_if_ne (tgt := 123) E d_c10_odds_116 (by decide) (fun h35 => ?_) (fun h35 => ?_)
        · replace hF := g_f hF h35
          refine j_blk (pc' := 125) (lv' := [(6, .long v33), (1, .int p1), (2, .long e47_2), (4, .long e47_4)]) (st' := [.long e47_4]) E b_c10_odds_123_1 rfl ?_
          refine j_lv [0] rfl ?_
          exact kp125 e47_4 hF
        · replace hF := g_t hF h35
          refine j_blk (pc' := 120) (lv' := [(6, .long v33), (1, .int p1), (2, .long e47_2), (4, .long e47_4)]) (st' := [.long e47_2]) E b_c10_odds_119_1 rfl ?_
          refine j_goto (tgt := 125) E d_c10_odds_120 (by decide) ?_
          refine j_lv [0] rfl ?_
          exact kp125 e47_2 hF
      · replace hF := g_f hF h6
        refine j_ldc2 (u := (-1000000003)) E d_c10_odds_24 m_525 ?_
        have e : res = ((-1000000003), s0) := g_inj hF
        subst e
        exact j_lret E hQ d_c10_odds_27 (fun _ h => h)
    · replace hF := g_f hF h2
      refine j_ldc2 (u := (-1000000001)) E d_c10_odds_9 m_524 ?_
      have e : res = ((-1000000001), s0) := g_inj hF
      subst e
      exact j_lret E hQ d_c10_odds_12 (fun _ h => h)
theorem b_c10_seeded_0_2 : bdec cX10_seeded 0 [.iload_n 1, .iconst 1] = true := by decide +kernel
theorem d_c10_seeded_2 : decode cX10_seeded 2 = .ok (.if_icmp .lt 9, 3) := by decide +kernel
theorem b_c10_seeded_11_1 : bdec cX10_seeded 11 [.iconst (-1)] = true := by decide +kernel
theorem d_c10_seeded_12 : decode cX10_seeded 12 = .ok (.ireturn, 1) := by decide +kernel
theorem b_c10_seeded_5_2 : bdec cX10_seeded 5 [.iload_n 1, .bipush 30] = true := by decide +kernel
theorem d_c10_seeded_8 : decode cX10_seeded 8 = .ok (.if_icmp .le 5, 3) := by decide +kernel
theorem b_c10_seeded_13_1 : bdec cX10_seeded 13 [.aload_n 0] = true := by decide +kernel
theorem d_c10_seeded_14 : decode cX10_seeded 14 = .ok (.getfield 27, 3) := by decide +kernel
theorem b_c10_seeded_17_1 : bdec cX10_seeded 17 [.aload_n 0] = true := by decide +kernel
theorem d_c10_seeded_18 : decode cX10_seeded 18 = .ok (.getfield 23, 3) := by decide +kernel
theorem d_c10_seeded_21 : decode cX10_seeded 21 = .ok (.invokevirtual 63, 3) := by decide +kernel
theorem b_c10_seeded_24_6 : bdec cX10_seeded 24 [.iload_n 2, .istore_n 3, .iconst 0, .istore 4, .iconst 0, .istore 5] = true := by decide +kernel
theorem b_c10_seeded_32_2 : bdec cX10_seeded 32 [.iload 5, .iload_n 1] = true := by decide +kernel
theorem d_c10_seeded_35 : decode cX10_seeded 35 = .ok (.if_icmp .ge 31, 3) := by decide +kernel
theorem b_c10_seeded_38_1 : bdec cX10_seeded 38 [.aload_n 0] = true := by decide +kernel
theorem d_c10_seeded_39 : decode cX10_seeded 39 = .ok (.getfield 27, 3) := by decide +kernel
theorem b_c10_seeded_42_1 : bdec cX10_seeded 42 [.iload_n 3] = true := by decide +kernel
theorem d_c10_seeded_43 : decode cX10_seeded 43 = .ok (.invokevirtual 214, 3) := by decide +kernel
theorem b_c10_seeded_46_2 : bdec cX10_seeded 46 [.istore_n 3, .aload_n 0] = true := by decide +kernel
theorem d_c10_seeded_48 : decode cX10_seeded 48 = .ok (.getfield 27, 3) := by decide +kernel
theorem d_c10_seeded_51 : decode cX10_seeded 51 = .ok (.invokevirtual 133, 3) := by decide +kernel
theorem d_c10_seeded_54 : decode cX10_seeded 54 = .ok (.ifCond .eq 6, 3) := by decide +kernel
theorem b_c10_seeded_60_1 : bdec cX10_seeded 60 [.iinc 5 1] = true := by decide +kernel
theorem d_c10_seeded_63 : decode cX10_seeded 63 = .ok (.goto (-31), 3) := by decide +kernel
theorem b_c10_seeded_57_2 : bdec cX10_seeded 57 [.iinc 4 1, .iinc 5 1] = true := by decide +kernel
theorem b_c10_seeded_66_1 : bdec cX10_seeded 66 [.iload 4] = true := by decide +kernel
theorem d_c10_seeded_68 : decode cX10_seeded 68 = .ok (.ireturn, 1) := by decide +kernel
def f10_seeded_L32 (a0 : Nat) (p1 : Int32) (w : Int32 × Int32 × Int32 × HM) : Option ((Int32 × Int32 × Int32 × HM) ⊕ (Int32 × HM)) := match w with
  | (x32_3, x32_4, x32_5, s32) => if p1 ≤ x32_5 then (some (.inr (x32_4, s32))) else (obd (hfld s32 [10] 2 a0) (fun v11 => orf v11 (fun b12 => ocl s32 b12 2 (obd (f2_playSeason s32 b12 x32_3) (fun e13 => match e13 with | (v15, s14) => obd (hfld s14 [10] 2 a0) (fun v16 => orf v16 (fun b17 => ocl s14 b17 2 (obd (f2_isLawful s14 b17) (fun v19 => if v19 = 0 then (some (.inl (v15, x32_4, x32_5 + Int32.ofInt 1, s14))) else (some (.inl (v15, x32_4 + Int32.ofInt 1, x32_5 + Int32.ofInt 1, s14))))))))))))
def f10_seeded (s0 : HM) (a0 : Nat) (p1 : Int32) (p2 : Int32) : Option (Int32 × HM) := if p1 < (Int32.ofInt 1) then (some (Int32.ofInt (-1), s0)) else (if p1 ≤ ((Int8.ofInt 30).toInt32) then (obd (hfld s0 [10] 2 a0) (fun v3 => obd (hfld s0 [10] 1 a0) (fun v4 => orf v4 (fun b5 => orf v3 (fun b6 => ocl s0 b6 2 (obd (f2_become s0 b6 b5) (fun s8 => obd (iter (f10_seeded_L32 a0 p1) FU (p2, Int32.ofInt 0, Int32.ofInt 0, s8)) (fun o9 => match o9 with | (e32_4, t32) => some (e32_4, t32))))))))) else (some (Int32.ofInt (-1), s0)))
set_option maxRecDepth 100000 in
set_option maxHeartbeats 4000000 in
theorem c10_seeded (l : Launch) (κ : KP) (A : Nat → Prop) (s0 : HM) (a0 : Nat) (p1 : Int32) (p2 : Int32) {res : Int32 × HM} (hF : f10_seeded s0 a0 p1 p2 = some res) : Met l yX10_seeded (Cond.code yX10_seeded cX10_seeded 6 (some .int) :: WT) (rmL 5 0 0) (PP κ A [.ref a0, .int p1, .int p2] (HS κ A s0)) (QQ (some (.int res.1)) (HS κ A res.2) A) 0 0 A := by
  refine met_of (own := RX10) (by decide) rfl (Nat.le_of_ble_eq_true rfl) ?_
  intro Γ E hQ hL hR hA hent hini
  have hAA : ∀ q, A q → jA Γ q := fun q h => by rw [hA]; exact h
  have hroom : ∀ (d mL : Nat) {mc ms : Nat}, d < 5 → mL ≤ 21 → (rmL d mc ms).frames + 1 ≤ (jR Γ).frames ∧ 8 + (mL + 11) + (rmL d mc ms).locals ≤ (jR Γ).locals := fun d mL mc ms h1 h2 => by rw [hR]; exact rmL_le h1 h2
  show J Γ 6 (HS κ A s0) 0 0 0 [(0, .ref a0), (1, .int p1), (2, .int p2)] []
  unfold f10_seeded at hF
  refine j_blk (pc' := 2) (lv' := [(0, .ref a0), (1, .int p1), (2, .int p2)]) (st' := [.int (Int32.ofInt 1), .int p1]) E b_c10_seeded_0_2 rfl ?_
  refine j_icmp_lt (tgt := 11) E d_c10_seeded_2 (by decide) (fun h1 => ?_) (fun h1 => ?_)
  · replace hF := g_t hF h1
    refine j_blk (pc' := 12) (lv' := [(0, .ref a0), (1, .int p1), (2, .int p2)]) (st' := [.int (Int32.ofInt (-1))]) E b_c10_seeded_11_1 rfl ?_
    have e : res = (Int32.ofInt (-1), s0) := g_inj hF
    subst e
    exact j_iret E hQ d_c10_seeded_12 (fun _ h => h)
  · replace hF := g_f hF h1
    refine j_blk (pc' := 8) (lv' := [(0, .ref a0), (1, .int p1), (2, .int p2)]) (st' := [.int ((Int8.ofInt 30).toInt32), .int p1]) E b_c10_seeded_5_2 rfl ?_
    refine j_icmp_le (tgt := 13) E d_c10_seeded_8 (by decide) (fun h2 => ?_) (fun h2 => ?_)
    · replace hF := g_t hF h2
      refine j_blk (pc' := 14) (lv' := [(0, .ref a0), (1, .int p1), (2, .int p2)]) (st' := [.ref a0]) E b_c10_seeded_13_1 rfl ?_
      replace hF := obd_at hF
      obtain ⟨v3, ev3, hF⟩ := hF
      refine j_getf E fg_RX10_27 d_c10_seeded_14 ev3 ?_
      refine j_blk (pc' := 18) (lv' := [(0, .ref a0), (1, .int p1), (2, .int p2)]) (st' := [.ref a0, v3]) E b_c10_seeded_17_1 rfl ?_
      replace hF := obd_at hF
      obtain ⟨v4, ev4, hF⟩ := hF
      refine j_getf E fg_RX10_23 d_c10_seeded_18 ev4 ?_
      replace hF := orf_at hF
      obtain ⟨b5, rfl, hF⟩ := hF
      replace hF := orf_at hF
      obtain ⟨b6, rfl, hF⟩ := hF
      replace hF := ocl_at hF
      obtain ⟨hc, hF⟩ := hF
      replace hF := obd_at hF
      obtain ⟨s8, he7, hF⟩ := hF
      refine j_callv [.ref b5] [] E w_RX10_63 (hroom 0 3 (by decide) (by decide)) hAA (c2_become _ κ A _ _ _  he7) (fun _ h => h) (fun _ _ _ h _ _ => h) (fun _ h => j_recv E h hc rfl) rfl rfl (Nat.le_of_ble_eq_true rfl) d_c10_seeded_21 ⟨Nat.zero_le _, Nat.zero_le _⟩ ?_
      refine j_blk (pc' := 32) (lv' := [(5, .int (Int32.ofInt 0)), (4, .int (Int32.ofInt 0)), (3, .int p2), (0, .ref a0), (1, .int p1), (2, .int p2)]) (st' := []) E b_c10_seeded_24_6 rfl ?_
      refine j_lv [3, 4, 2, 1, 0] rfl ?_
      replace hF := obd_at hF
      obtain ⟨o9, ho9, hF⟩ := hF
      have lpo9 : ∀ (fu : Nat) (w : Int32 × Int32 × Int32 × HM) (o : Int32 × HM), iter (f10_seeded_L32 a0 p1) fu w = some o → (fun (o : Int32 × HM) => J Γ 6 (HS κ A o.2) 0 0 66 [(4, .int o.1)] []) o → (fun (w : Int32 × Int32 × Int32 × HM) => J Γ 6 (HS κ A w.2.2.2) 0 0 32 [(0, .ref a0), (1, .int p1), (3, .int w.1), (4, .int w.2.1), (5, .int w.2.2.1)] []) w := by
        refine j_iter (P := fun (w : Int32 × Int32 × Int32 × HM) => J Γ 6 (HS κ A w.2.2.2) 0 0 32 [(0, .ref a0), (1, .int p1), (3, .int w.1), (4, .int w.2.1), (5, .int w.2.2.1)] []) (G := fun (o : Int32 × HM) => J Γ 6 (HS κ A o.2) 0 0 66 [(4, .int o.1)] []) ?_
        rintro ⟨x32_3, x32_4, x32_5, s32⟩ q hF hI hO
        show J Γ 6 (HS κ A s32) 0 0 32 [(0, .ref a0), (1, .int p1), (3, .int x32_3), (4, .int x32_4), (5, .int x32_5)] []
        unfold f10_seeded_L32 at hF
        refine j_blk (pc' := 35) (lv' := [(0, .ref a0), (1, .int p1), (3, .int x32_3), (4, .int x32_4), (5, .int x32_5)]) (st' := [.int p1, .int x32_5]) E b_c10_seeded_32_2 rfl ?_
        refine j_icmp_ge (tgt := 66) E d_c10_seeded_35 (by decide) (fun h10 => ?_) (fun h10 => ?_)
        · replace hF := g_t hF h10
          refine j_lv [3] rfl ?_
          exact hO _ (g_inj hF)
        · replace hF := g_f hF h10
          refine j_blk (pc' := 39) (lv' := [(0, .ref a0), (1, .int p1), (3, .int x32_3), (4, .int x32_4), (5, .int x32_5)]) (st' := [.ref a0]) E b_c10_seeded_38_1 rfl ?_
          replace hF := obd_at hF
          obtain ⟨v11, ev11, hF⟩ := hF
          refine j_getf E fg_RX10_27 d_c10_seeded_39 ev11 ?_
          refine j_blk (pc' := 43) (lv' := [(0, .ref a0), (1, .int p1), (3, .int x32_3), (4, .int x32_4), (5, .int x32_5)]) (st' := [.int x32_3, v11]) E b_c10_seeded_42_1 rfl ?_
          replace hF := orf_at hF
          obtain ⟨b12, rfl, hF⟩ := hF
          replace hF := ocl_at hF
          obtain ⟨hc, hF⟩ := hF
          replace hF := obd_at hF
          obtain ⟨⟨v15, s14⟩, he13, hF⟩ := hF
          refine j_callv [.int x32_3] [] E w_RX10_214 (hroom 3 6 (by decide) (by decide)) hAA (c2_playSeason _ κ A _ _ _  he13) (fun _ h => h) (fun _ _ _ h _ _ => h) (fun _ h => j_recv E h hc rfl) rfl rfl (Nat.le_of_ble_eq_true rfl) d_c10_seeded_43 ⟨Nat.zero_le _, Nat.zero_le _⟩ ?_
          refine j_blk (pc' := 48) (lv' := [(3, .int v15), (0, .ref a0), (1, .int p1), (4, .int x32_4), (5, .int x32_5)]) (st' := [.ref a0]) E b_c10_seeded_46_2 rfl ?_
          replace hF := obd_at hF
          obtain ⟨v16, ev16, hF⟩ := hF
          refine j_getf E fg_RX10_27 d_c10_seeded_48 ev16 ?_
          replace hF := orf_at hF
          obtain ⟨b17, rfl, hF⟩ := hF
          replace hF := ocl_at hF
          obtain ⟨hc, hF⟩ := hF
          replace hF := obd_at hF
          obtain ⟨v19, he18, hF⟩ := hF
          refine j_callv [] [] E w_RX10_133 (hroom 4 1 (by decide) (by decide)) hAA (c2_isLawful _ κ A _ _  he18) (fun _ h => h) (fun _ _ _ h _ _ => h) (fun _ h => j_recv E h hc rfl) rfl rfl (Nat.le_of_ble_eq_true rfl) d_c10_seeded_51 ⟨Nat.zero_le _, Nat.zero_le _⟩ ?_
          refine j_if_eq (tgt := 60) E d_c10_seeded_54 (by decide) (fun h20 => ?_) (fun h20 => ?_)
          · replace hF := g_t hF h20
            refine j_blk (pc' := 63) (lv' := [(5, .int (x32_5 + Int32.ofInt 1)), (3, .int v15), (0, .ref a0), (1, .int p1), (4, .int x32_4)]) (st' := []) E b_c10_seeded_60_1 rfl ?_
            refine j_goto (tgt := 32) E d_c10_seeded_63 (by decide) ?_
            refine j_lv [2, 3, 1, 4, 0] rfl ?_
            exact hI _ (g_inj hF)
          · replace hF := g_f hF h20
            refine j_blk (pc' := 63) (lv' := [(5, .int (x32_5 + Int32.ofInt 1)), (4, .int (x32_4 + Int32.ofInt 1)), (3, .int v15), (0, .ref a0), (1, .int p1)]) (st' := []) E b_c10_seeded_57_2 rfl ?_
            refine j_goto (tgt := 32) E d_c10_seeded_63 (by decide) ?_
            refine j_lv [3, 4, 2, 1, 0] rfl ?_
            exact hI _ (g_inj hF)
      refine lpo9 FU (p2, Int32.ofInt 0, Int32.ofInt 0, s8) o9 ho9 ?_
      obtain ⟨e32_4, t32⟩ := o9
      show J Γ 6 (HS κ A t32) 0 0 66 [(4, .int e32_4)] []
      refine j_blk (pc' := 68) (lv' := [(4, .int e32_4)]) (st' := [.int e32_4]) E b_c10_seeded_66_1 rfl ?_
      have e : res = (e32_4, t32) := g_inj hF
      subst e
      exact j_iret E hQ d_c10_seeded_68 (fun _ h => h)
    · replace hF := g_f hF h2
      refine j_blk (pc' := 12) (lv' := [(0, .ref a0), (1, .int p1), (2, .int p2)]) (st' := [.int (Int32.ofInt (-1))]) E b_c10_seeded_11_1 rfl ?_
      have e : res = (Int32.ofInt (-1), s0) := g_inj hF
      subst e
      exact j_iret E hQ d_c10_seeded_12 (fun _ h => h)
theorem b_c10_keep_0_1 : bdec cX10_keep 0 [.iload_n 1] = true := by decide +kernel
theorem d_c10_keep_1 : decode cX10_keep 1 = .ok (.invokestatic 211, 3) := by decide +kernel
theorem d_c10_keep_4 : decode cX10_keep 4 = .ok (.ifCond .eq 12, 3) := by decide +kernel
theorem b_c10_keep_16_1 : bdec cX10_keep 16 [.iconst (-1)] = true := by decide +kernel
theorem d_c10_keep_17 : decode cX10_keep 17 = .ok (.ireturn, 1) := by decide +kernel
theorem b_c10_keep_7_1 : bdec cX10_keep 7 [.iload_n 2] = true := by decide +kernel
theorem d_c10_keep_8 : decode cX10_keep 8 = .ok (.ifCond .lt 8, 3) := by decide +kernel
theorem b_c10_keep_11_2 : bdec cX10_keep 11 [.iload_n 2, .iconst 1] = true := by decide +kernel
theorem d_c10_keep_13 : decode cX10_keep 13 = .ok (.if_icmp .le 5, 3) := by decide +kernel
theorem b_c10_keep_18_2 : bdec cX10_keep 18 [.iload_n 2, .iconst 1] = true := by decide +kernel
theorem d_c10_keep_20 : decode cX10_keep 20 = .ok (.if_icmp .ne 14, 3) := by decide +kernel
theorem b_c10_keep_34_1 : bdec cX10_keep 34 [.aload_n 0] = true := by decide +kernel
theorem d_c10_keep_35 : decode cX10_keep 35 = .ok (.getfield 43, 3) := by decide +kernel
theorem b_c10_keep_38_2 : bdec cX10_keep 38 [.iload_n 1, .aconst_null] = true := by decide +kernel
theorem d_c10_keep_40 : decode cX10_keep 40 = .ok (.aastore, 1) := by decide +kernel
theorem b_c10_keep_41_1 : bdec cX10_keep 41 [.aload_n 0] = true := by decide +kernel
theorem d_c10_keep_42 : decode cX10_keep 42 = .ok (.getfield 37, 3) := by decide +kernel
theorem b_c10_keep_45_3 : bdec cX10_keep 45 [.iload_n 1, .iload_n 2, .iconst 1] = true := by decide +kernel
theorem d_c10_keep_48 : decode cX10_keep 48 = .ok (.if_icmp .ne 12, 3) := by decide +kernel
theorem b_c10_keep_60_1 : bdec cX10_keep 60 [.aconst_null] = true := by decide +kernel
theorem d_c10_keep_61 : decode cX10_keep 61 = .ok (.aastore, 1) := by decide +kernel
theorem b_c10_keep_62_1 : bdec cX10_keep 62 [.iconst 0] = true := by decide +kernel
theorem d_c10_keep_63 : decode cX10_keep 63 = .ok (.ireturn, 1) := by decide +kernel
theorem b_c10_keep_51_2 : bdec cX10_keep 51 [.iload_n 3, .iload 4] = true := by decide +kernel
theorem d_c10_keep_54 : decode cX10_keep 54 = .ok (.invokestatic 168, 3) := by decide +kernel
theorem d_c10_keep_57 : decode cX10_keep 57 = .ok (.goto 4, 3) := by decide +kernel
theorem b_c10_keep_23_2 : bdec cX10_keep 23 [.iload_n 3, .iload 4] = true := by decide +kernel
theorem d_c10_keep_26 : decode cX10_keep 26 = .ok (.invokestatic 165, 3) := by decide +kernel
theorem d_c10_keep_29 : decode cX10_keep 29 = .ok (.ifCond .ne 5, 3) := by decide +kernel
theorem b_c10_keep_32_1 : bdec cX10_keep 32 [.iconst (-1)] = true := by decide +kernel
theorem d_c10_keep_33 : decode cX10_keep 33 = .ok (.ireturn, 1) := by decide +kernel
def f10_keep_K34 (s0 : HM) (a0 : Nat) (p1 : Int32) (p2 : Int32) (p3 : Int32) (p4 : Int32) : Option (Int32 × HM) := obd (hfld s0 [10] 6 a0) (fun v6 => orf v6 (fun b7 => obd (hrst s0 b7 p1 .null) (fun s8 => obd (hfld s8 [10] 5 a0) (fun v9 => if p2 = (Int32.ofInt 1) then (orf v9 (fun b13 => obd (f10_newPerson s8 p3 p4) (fun e14 => match e14 with | (v16, s15) => obd (hrst s15 b13 p1 v16) (fun s17 => some (Int32.ofInt 0, s17))))) else (orf v9 (fun b11 => obd (hrst s8 b11 p1 .null) (fun s12 => some (Int32.ofInt 0, s12))))))))
def f10_keep (s0 : HM) (a0 : Nat) (p1 : Int32) (p2 : Int32) (p3 : Int32) (p4 : Int32) : Option (Int32 × HM) := obd (f10_isShelf p1) (fun v2 => if v2 = 0 then (some (Int32.ofInt (-1), s0)) else (if p2 < 0 then (some (Int32.ofInt (-1), s0)) else (if p2 ≤ (Int32.ofInt 1) then (if p2 = (Int32.ofInt 1) then (obd (f10_isPerson p3 p4) (fun v20 => if v20 = 0 then (some (Int32.ofInt (-1), s0)) else (f10_keep_K34 s0 a0 p1 p2 p3 p4))) else (f10_keep_K34 s0 a0 p1 p2 p3 p4)) else (some (Int32.ofInt (-1), s0)))))
set_option maxRecDepth 100000 in
set_option maxHeartbeats 4000000 in
theorem c10_keep (l : Launch) (κ : KP) (A : Nat → Prop) (hκ : kF κ = true) (s0 : HM) (a0 : Nat) (p1 : Int32) (p2 : Int32) (p3 : Int32) (p4 : Int32) {res : Int32 × HM} (hF : f10_keep s0 a0 p1 p2 p3 p4 = some res) : Met l yX10_keep (Cond.code yX10_keep cX10_keep 5 (some .int) :: WT) (rmL 5 1 1) (PP κ A [.ref a0, .int p1, .int p2, .int p3, .int p4] (HS κ A s0)) (QQ (some (.int res.1)) (HS κ A res.2) A) 1 1 A := by
  refine met_of (own := RX10) (by decide) rfl (Nat.le_of_ble_eq_true rfl) ?_
  intro Γ E hQ hL hR hA hent hini
  have hAA : ∀ q, A q → jA Γ q := fun q h => by rw [hA]; exact h
  have hroom : ∀ (d mL : Nat) {mc ms : Nat}, d < 5 → mL ≤ 21 → (rmL d mc ms).frames + 1 ≤ (jR Γ).frames ∧ 8 + (mL + 11) + (rmL d mc ms).locals ≤ (jR Γ).locals := fun d mL mc ms h1 h2 => by rw [hR]; exact rmL_le h1 h2
  show J Γ 5 (HS κ A s0) 0 0 0 [(0, .ref a0), (1, .int p1), (2, .int p2), (3, .int p3), (4, .int p4)] []
  unfold f10_keep at hF
  refine j_blk (pc' := 1) (lv' := [(0, .ref a0), (1, .int p1), (2, .int p2), (3, .int p3), (4, .int p4)]) (st' := [.int p1]) E b_c10_keep_0_1 rfl ?_
  replace hF := obd_at hF
  obtain ⟨v2, he1, hF⟩ := hF
  refine j_calls [.int p1] [] E w_RX10_211 (hroom 0 1 (by decide) (by decide)) hAA (c10_isShelf _ κ A (HS κ A s0) _  he1) (fun _ h => h) (fun _ _ _ h _ _ => h) rfl rfl (Nat.le_of_ble_eq_true rfl) d_c10_keep_1 ⟨Nat.zero_le _, Nat.zero_le _⟩ ?_
  refine j_if_eq (tgt := 16) E d_c10_keep_4 (by decide) (fun h3 => ?_) (fun h3 => ?_)
  · replace hF := g_t hF h3
    refine j_blk (pc' := 17) (lv' := [(0, .ref a0), (1, .int p1), (2, .int p2), (3, .int p3), (4, .int p4)]) (st' := [.int (Int32.ofInt (-1))]) E b_c10_keep_16_1 rfl ?_
    have e : res = (Int32.ofInt (-1), s0) := g_inj hF
    subst e
    refine j_wid (k' := 1) (n' := 1) (by decide) (by decide) ?_
    exact j_iret E hQ d_c10_keep_17 (fun _ h => h)
  · replace hF := g_f hF h3
    refine j_blk (pc' := 8) (lv' := [(0, .ref a0), (1, .int p1), (2, .int p2), (3, .int p3), (4, .int p4)]) (st' := [.int p2]) E b_c10_keep_7_1 rfl ?_
    refine j_if_lt (tgt := 16) E d_c10_keep_8 (by decide) (fun h4 => ?_) (fun h4 => ?_)
    · replace hF := g_t hF h4
      refine j_blk (pc' := 17) (lv' := [(0, .ref a0), (1, .int p1), (2, .int p2), (3, .int p3), (4, .int p4)]) (st' := [.int (Int32.ofInt (-1))]) E b_c10_keep_16_1 rfl ?_
      have e : res = (Int32.ofInt (-1), s0) := g_inj hF
      subst e
      refine j_wid (k' := 1) (n' := 1) (by decide) (by decide) ?_
      exact j_iret E hQ d_c10_keep_17 (fun _ h => h)
    · replace hF := g_f hF h4
      refine j_blk (pc' := 13) (lv' := [(0, .ref a0), (1, .int p1), (2, .int p2), (3, .int p3), (4, .int p4)]) (st' := [.int (Int32.ofInt 1), .int p2]) E b_c10_keep_11_2 rfl ?_
      refine j_icmp_le (tgt := 18) E d_c10_keep_13 (by decide) (fun h5 => ?_) (fun h5 => ?_)
      · replace hF := g_t hF h5
        refine j_blk (pc' := 20) (lv' := [(0, .ref a0), (1, .int p1), (2, .int p2), (3, .int p3), (4, .int p4)]) (st' := [.int (Int32.ofInt 1), .int p2]) E b_c10_keep_18_2 rfl ?_
        have kp34 : f10_keep_K34 s0 a0 p1 p2 p3 p4 = some res → J Γ 5 (HS κ A s0) 0 0 34 [(0, .ref a0), (1, .int p1), (2, .int p2), (3, .int p3), (4, .int p4)] [] := by
          intro hF
          unfold f10_keep_K34 at hF
          refine j_blk (pc' := 35) (lv' := [(0, .ref a0), (1, .int p1), (2, .int p2), (3, .int p3), (4, .int p4)]) (st' := [.ref a0]) E b_c10_keep_34_1 rfl ?_
          replace hF := obd_at hF
          obtain ⟨v6, ev6, hF⟩ := hF
          refine j_getf E fg_RX10_43 d_c10_keep_35 ev6 ?_
          refine j_blk (pc' := 40) (lv' := [(0, .ref a0), (1, .int p1), (2, .int p2), (3, .int p3), (4, .int p4)]) (st' := [.null, .int p1, v6]) E b_c10_keep_38_2 rfl ?_
          replace hF := orf_at hF
          obtain ⟨b7, rfl, hF⟩ := hF
          replace hF := obd_at hF
          obtain ⟨s8, es8, hF⟩ := hF
          refine j_rast E ra_ok d_c10_keep_40 es8 hAA ?_
          refine j_blk (pc' := 42) (lv' := [(0, .ref a0), (1, .int p1), (2, .int p2), (3, .int p3), (4, .int p4)]) (st' := [.ref a0]) E b_c10_keep_41_1 rfl ?_
          replace hF := obd_at hF
          obtain ⟨v9, ev9, hF⟩ := hF
          refine j_getf E fg_RX10_37 d_c10_keep_42 ev9 ?_
          refine j_blk (pc' := 48) (lv' := [(0, .ref a0), (1, .int p1), (2, .int p2), (3, .int p3), (4, .int p4)]) (st' := [.int (Int32.ofInt 1), .int p2, .int p1, v9]) E b_c10_keep_45_3 rfl ?_
          refine j_icmp_ne (tgt := 60) E d_c10_keep_48 (by decide) (fun h10 => ?_) (fun h10 => ?_)
          · replace hF := g_f hF h10
            refine j_blk (pc' := 61) (lv' := [(0, .ref a0), (1, .int p1), (2, .int p2), (3, .int p3), (4, .int p4)]) (st' := [.null, .int p1, v9]) E b_c10_keep_60_1 rfl ?_
            replace hF := orf_at hF
            obtain ⟨b11, rfl, hF⟩ := hF
            replace hF := obd_at hF
            obtain ⟨s12, es12, hF⟩ := hF
            refine j_rast E ra_ok d_c10_keep_61 es12 hAA ?_
            refine j_blk (pc' := 63) (lv' := [(0, .ref a0), (1, .int p1), (2, .int p2), (3, .int p3), (4, .int p4)]) (st' := [.int (Int32.ofInt 0)]) E b_c10_keep_62_1 rfl ?_
            have e : res = (Int32.ofInt 0, s12) := g_inj hF
            subst e
            refine j_wid (k' := 1) (n' := 1) (by decide) (by decide) ?_
            exact j_iret E hQ d_c10_keep_63 (fun _ h => h)
          · replace hF := g_t hF h10
            refine j_blk (pc' := 54) (lv' := [(0, .ref a0), (1, .int p1), (2, .int p2), (3, .int p3), (4, .int p4)]) (st' := [.int p4, .int p3, .int p1, v9]) E b_c10_keep_51_2 rfl ?_
            replace hF := orf_at hF
            obtain ⟨b13, rfl, hF⟩ := hF
            replace hF := obd_at hF
            obtain ⟨⟨v16, s15⟩, he14, hF⟩ := hF
            refine j_calls [.int p3, .int p4] [.int p1, .ref b13] E w_RX10_168 (hroom 4 2 (by decide) (by decide)) hAA (c10_newPerson _ κ A hκ _ _ _ he14) (fun _ h => h) (fun _ _ _ h _ _ => h) rfl rfl (Nat.le_of_ble_eq_true rfl) d_c10_keep_54 ⟨by rw [hR]; decide, by rw [hR]; decide⟩ ?_
            refine j_goto (tgt := 61) E d_c10_keep_57 (by decide) ?_
            replace hF := obd_at hF
            obtain ⟨s17, es17, hF⟩ := hF
            refine j_rast E ra_ok d_c10_keep_61 es17 hAA ?_
            refine j_blk (pc' := 63) (lv' := [(0, .ref a0), (1, .int p1), (2, .int p2), (3, .int p3), (4, .int p4)]) (st' := [.int (Int32.ofInt 0)]) E b_c10_keep_62_1 rfl ?_
            have e : res = (Int32.ofInt 0, s17) := g_inj hF
            subst e
            refine j_wid (k' := 1) (n' := 1) (by decide) (by decide) ?_
            exact j_iret E hQ d_c10_keep_63 (fun _ h => h)
        refine j_icmp_ne (tgt := 34) E d_c10_keep_20 (by decide) (fun h18 => ?_) (fun h18 => ?_)
        · replace hF := g_f hF h18
          exact kp34 hF
        · replace hF := g_t hF h18
          refine j_blk (pc' := 26) (lv' := [(0, .ref a0), (1, .int p1), (2, .int p2), (3, .int p3), (4, .int p4)]) (st' := [.int p4, .int p3]) E b_c10_keep_23_2 rfl ?_
          replace hF := obd_at hF
          obtain ⟨v20, he19, hF⟩ := hF
          refine j_calls [.int p3, .int p4] [] E w_RX10_165 (hroom 0 2 (by decide) (by decide)) hAA (c10_isPerson _ κ A (HS κ A s0) _ _  he19) (fun _ h => h) (fun _ _ _ h _ _ => h) rfl rfl (Nat.le_of_ble_eq_true rfl) d_c10_keep_26 ⟨Nat.zero_le _, Nat.zero_le _⟩ ?_
          refine j_if_ne (tgt := 34) E d_c10_keep_29 (by decide) (fun h21 => ?_) (fun h21 => ?_)
          · replace hF := g_f hF h21
            exact kp34 hF
          · replace hF := g_t hF h21
            refine j_blk (pc' := 33) (lv' := [(0, .ref a0), (1, .int p1), (2, .int p2), (3, .int p3), (4, .int p4)]) (st' := [.int (Int32.ofInt (-1))]) E b_c10_keep_32_1 rfl ?_
            have e : res = (Int32.ofInt (-1), s0) := g_inj hF
            subst e
            refine j_wid (k' := 1) (n' := 1) (by decide) (by decide) ?_
            exact j_iret E hQ d_c10_keep_33 (fun _ h => h)
      · replace hF := g_f hF h5
        refine j_blk (pc' := 17) (lv' := [(0, .ref a0), (1, .int p1), (2, .int p2), (3, .int p3), (4, .int p4)]) (st' := [.int (Int32.ofInt (-1))]) E b_c10_keep_16_1 rfl ?_
        have e : res = (Int32.ofInt (-1), s0) := g_inj hF
        subst e
        refine j_wid (k' := 1) (n' := 1) (by decide) (by decide) ?_
        exact j_iret E hQ d_c10_keep_17 (fun _ h => h)
theorem b_c10_draftFollows_0_1 : bdec cX10_draftFollows 0 [.iload_n 1] = true := by decide +kernel
theorem d_c10_draftFollows_1 : decode cX10_draftFollows 1 = .ok (.lookupswitch 153 #[(108, 104), (112, 43), (117, 123), (119, 79)], 43) := by decide +kernel
theorem b_c10_draftFollows_105_1 : bdec cX10_draftFollows 105 [.iload_n 2] = true := by decide +kernel
theorem d_c10_draftFollows_106 : decode cX10_draftFollows 106 = .ok (.invokestatic 127, 3) := by decide +kernel
theorem d_c10_draftFollows_109 : decode cX10_draftFollows 109 = .ok (.ifCond .ne 5, 3) := by decide +kernel
theorem b_c10_draftFollows_114_1 : bdec cX10_draftFollows 114 [.aload_n 0] = true := by decide +kernel
theorem d_c10_draftFollows_115 : decode cX10_draftFollows 115 = .ok (.getfield 27, 3) := by decide +kernel
theorem b_c10_draftFollows_118_1 : bdec cX10_draftFollows 118 [.iload_n 2] = true := by decide +kernel
theorem d_c10_draftFollows_119 : decode cX10_draftFollows 119 = .ok (.putfield 130, 3) := by decide +kernel
theorem b_c10_draftFollows_122_1 : bdec cX10_draftFollows 122 [.iconst 1] = true := by decide +kernel
theorem d_c10_draftFollows_123 : decode cX10_draftFollows 123 = .ok (.ireturn, 1) := by decide +kernel
theorem b_c10_draftFollows_112_1 : bdec cX10_draftFollows 112 [.iconst 0] = true := by decide +kernel
theorem d_c10_draftFollows_113 : decode cX10_draftFollows 113 = .ok (.ireturn, 1) := by decide +kernel
theorem b_c10_draftFollows_44_2 : bdec cX10_draftFollows 44 [.iload_n 2, .iload_n 3] = true := by decide +kernel
theorem d_c10_draftFollows_46 : decode cX10_draftFollows 46 = .ok (.invokestatic 165, 3) := by decide +kernel
theorem d_c10_draftFollows_49 : decode cX10_draftFollows 49 = .ok (.ifCond .eq 15, 3) := by decide +kernel
theorem b_c10_draftFollows_64_1 : bdec cX10_draftFollows 64 [.iconst 0] = true := by decide +kernel
theorem d_c10_draftFollows_65 : decode cX10_draftFollows 65 = .ok (.ireturn, 1) := by decide +kernel
theorem b_c10_draftFollows_52_1 : bdec cX10_draftFollows 52 [.aload_n 0] = true := by decide +kernel
theorem d_c10_draftFollows_53 : decode cX10_draftFollows 53 = .ok (.getfield 27, 3) := by decide +kernel
theorem d_c10_draftFollows_56 : decode cX10_draftFollows 56 = .ok (.getfield 111, 3) := by decide +kernel
theorem b_c10_draftFollows_59_1 : bdec cX10_draftFollows 59 [.bipush 7] = true := by decide +kernel
theorem d_c10_draftFollows_61 : decode cX10_draftFollows 61 = .ok (.if_icmp .lt 5, 3) := by decide +kernel
theorem b_c10_draftFollows_66_1 : bdec cX10_draftFollows 66 [.aload_n 0] = true := by decide +kernel
theorem d_c10_draftFollows_67 : decode cX10_draftFollows 67 = .ok (.getfield 27, 3) := by decide +kernel
theorem b_c10_draftFollows_70_2 : bdec cX10_draftFollows 70 [.iload_n 2, .iload_n 3] = true := by decide +kernel
theorem d_c10_draftFollows_72 : decode cX10_draftFollows 72 = .ok (.invokestatic 168, 3) := by decide +kernel
theorem d_c10_draftFollows_75 : decode cX10_draftFollows 75 = .ok (.invokevirtual 113, 3) := by decide +kernel
theorem b_c10_draftFollows_78_1 : bdec cX10_draftFollows 78 [.iconst 1] = true := by decide +kernel
theorem d_c10_draftFollows_79 : decode cX10_draftFollows 79 = .ok (.ireturn, 1) := by decide +kernel
theorem b_c10_draftFollows_124_1 : bdec cX10_draftFollows 124 [.aload_n 0] = true := by decide +kernel
theorem d_c10_draftFollows_125 : decode cX10_draftFollows 125 = .ok (.getfield 27, 3) := by decide +kernel
theorem d_c10_draftFollows_128 : decode cX10_draftFollows 128 = .ok (.getfield 111, 3) := by decide +kernel
theorem d_c10_draftFollows_131 : decode cX10_draftFollows 131 = .ok (.ifCond .ne 5, 3) := by decide +kernel
theorem b_c10_draftFollows_136_1 : bdec cX10_draftFollows 136 [.aload_n 0] = true := by decide +kernel
theorem d_c10_draftFollows_137 : decode cX10_draftFollows 137 = .ok (.getfield 27, 3) := by decide +kernel
theorem b_c10_draftFollows_140_1 : bdec cX10_draftFollows 140 [.aload_n 0] = true := by decide +kernel
theorem d_c10_draftFollows_141 : decode cX10_draftFollows 141 = .ok (.getfield 27, 3) := by decide +kernel
theorem d_c10_draftFollows_144 : decode cX10_draftFollows 144 = .ok (.getfield 111, 3) := by decide +kernel
theorem b_c10_draftFollows_147_2 : bdec cX10_draftFollows 147 [.iconst 1, .isub] = true := by decide +kernel
theorem d_c10_draftFollows_149 : decode cX10_draftFollows 149 = .ok (.invokevirtual 175, 3) := by decide +kernel
theorem b_c10_draftFollows_152_1 : bdec cX10_draftFollows 152 [.iconst 1] = true := by decide +kernel
theorem d_c10_draftFollows_153 : decode cX10_draftFollows 153 = .ok (.ireturn, 1) := by decide +kernel
theorem b_c10_draftFollows_134_1 : bdec cX10_draftFollows 134 [.iconst 0] = true := by decide +kernel
theorem d_c10_draftFollows_135 : decode cX10_draftFollows 135 = .ok (.ireturn, 1) := by decide +kernel
theorem b_c10_draftFollows_80_1 : bdec cX10_draftFollows 80 [.aload_n 0] = true := by decide +kernel
theorem d_c10_draftFollows_81 : decode cX10_draftFollows 81 = .ok (.getfield 27, 3) := by decide +kernel
theorem b_c10_draftFollows_84_2 : bdec cX10_draftFollows 84 [.iload_n 2, .iload_n 3] = true := by decide +kernel
theorem d_c10_draftFollows_86 : decode cX10_draftFollows 86 = .ok (.invokevirtual 116, 3) := by decide +kernel
theorem d_c10_draftFollows_89 : decode cX10_draftFollows 89 = .ok (.ifCond .ne 5, 3) := by decide +kernel
theorem b_c10_draftFollows_94_1 : bdec cX10_draftFollows 94 [.aload_n 0] = true := by decide +kernel
theorem d_c10_draftFollows_95 : decode cX10_draftFollows 95 = .ok (.getfield 27, 3) := by decide +kernel
theorem b_c10_draftFollows_98_2 : bdec cX10_draftFollows 98 [.iload_n 2, .iload_n 3] = true := by decide +kernel
theorem d_c10_draftFollows_100 : decode cX10_draftFollows 100 = .ok (.invokevirtual 123, 3) := by decide +kernel
theorem b_c10_draftFollows_103_1 : bdec cX10_draftFollows 103 [.iconst 1] = true := by decide +kernel
theorem d_c10_draftFollows_104 : decode cX10_draftFollows 104 = .ok (.ireturn, 1) := by decide +kernel
theorem b_c10_draftFollows_92_1 : bdec cX10_draftFollows 92 [.iconst 0] = true := by decide +kernel
theorem d_c10_draftFollows_93 : decode cX10_draftFollows 93 = .ok (.ireturn, 1) := by decide +kernel
theorem b_c10_draftFollows_154_1 : bdec cX10_draftFollows 154 [.iconst 0] = true := by decide +kernel
theorem d_c10_draftFollows_155 : decode cX10_draftFollows 155 = .ok (.ireturn, 1) := by decide +kernel
def f10_draftFollows (s0 : HM) (a0 : Nat) (p1 : Int32) (p2 : Int32) (p3 : Int32) : Option (Int32 × HM) := if p1 = 108 then (obd (f10_isLaw p2) (fun v3 => if v3 = 0 then (some (Int32.ofInt 0, s0)) else (obd (hfld s0 [10] 2 a0) (fun v5 => orf v5 (fun b6 => obd (hput s0 [2] 3 b6 (.int p2)) (fun s7 => some (Int32.ofInt 1, s7))))))) else (if p1 = 112 then (obd (f10_isPerson p2 p3) (fun v10 => if v10 = 0 then (some (Int32.ofInt 0, s0)) else (obd (hfld s0 [10] 2 a0) (fun v12 => orf v12 (fun b13 => obd (hfi s0 [2] 2 b13) (fun v14 => if v14 < ((Int8.ofInt 7).toInt32) then (obd (hfld s0 [10] 2 a0) (fun v16 => orf v16 (fun b17 => obd (f10_newPerson s0 p2 p3) (fun e18 => match e18 with | (v20, s19) => orf v20 (fun b21 => ocl s19 b17 2 (obd (f2_seat s19 b17 b21) (fun s23 => some (Int32.ofInt 1, s23)))))))) else (some (Int32.ofInt 0, s0)))))))) else (if p1 = 117 then (obd (hfld s0 [10] 2 a0) (fun v25 => orf v25 (fun b26 => obd (hfi s0 [2] 2 b26) (fun v27 => if v27 = 0 then (some (Int32.ofInt 0, s0)) else (obd (hfld s0 [10] 2 a0) (fun v29 => obd (hfld s0 [10] 2 a0) (fun v30 => orf v30 (fun b31 => obd (hfi s0 [2] 2 b31) (fun v32 => orf v29 (fun b33 => ocl s0 b33 2 (obd (f2_unseat s0 b33 (v32 - (Int32.ofInt 1))) (fun s35 => some (Int32.ofInt 1, s35))))))))))))) else (if p1 = 119 then (obd (hfld s0 [10] 2 a0) (fun v37 => orf v37 (fun b38 => ocl s0 b38 2 (obd (f2_hasBoth s0 b38 p2 p3) (fun v40 => if v40 = 0 then (some (Int32.ofInt 0, s0)) else (obd (hfld s0 [10] 2 a0) (fun v42 => orf v42 (fun b43 => ocl s0 b43 2 (obd (f2_win s0 b43 p2 p3) (fun s45 => some (Int32.ofInt 1, s45))))))))))) else (some (Int32.ofInt 0, s0)))))
set_option maxRecDepth 100000 in
set_option maxHeartbeats 4000000 in
theorem c10_draftFollows (l : Launch) (κ : KP) (A : Nat → Prop) (hκ : kF κ = true) (s0 : HM) (a0 : Nat) (p1 : Int32) (p2 : Int32) (p3 : Int32) {res : Int32 × HM} (hF : f10_draftFollows s0 a0 p1 p2 p3 = some res) : Met l yX10_draftFollows (Cond.code yX10_draftFollows cX10_draftFollows 4 (some .boolean) :: WT) (rmL 5 1 1) (PP κ A [.ref a0, .int p1, .int p2, .int p3] (HS κ A s0)) (QQ (some (.int res.1)) (HS κ A res.2) A) 1 1 A := by
  refine met_of (own := RX10) (by decide) rfl (Nat.le_of_ble_eq_true rfl) ?_
  intro Γ E hQ hL hR hA hent hini
  have hAA : ∀ q, A q → jA Γ q := fun q h => by rw [hA]; exact h
  have hroom : ∀ (d mL : Nat) {mc ms : Nat}, d < 5 → mL ≤ 21 → (rmL d mc ms).frames + 1 ≤ (jR Γ).frames ∧ 8 + (mL + 11) + (rmL d mc ms).locals ≤ (jR Γ).locals := fun d mL mc ms h1 h2 => by rw [hR]; exact rmL_le h1 h2
  show J Γ 4 (HS κ A s0) 0 0 0 [(0, .ref a0), (1, .int p1), (2, .int p2), (3, .int p3)] []
  unfold f10_draftFollows at hF
  refine j_blk (pc' := 1) (lv' := [(0, .ref a0), (1, .int p1), (2, .int p2), (3, .int p3)]) (st' := [.int p1]) E b_c10_draftFollows_0_1 rfl ?_
  rcases Decidable.em (p1 = 108) with h1 | h1
  · replace hF := g_t hF h1
    refine j_lkp (tgt := 105) (off := 104) E d_c10_draftFollows_1 (by decide) (by rw [h1]; decide) (by decide) ?_
    refine j_blk (pc' := 106) (lv' := [(0, .ref a0), (1, .int p1), (2, .int p2), (3, .int p3)]) (st' := [.int p2]) E b_c10_draftFollows_105_1 rfl ?_
    replace hF := obd_at hF
    obtain ⟨v3, he2, hF⟩ := hF
    refine j_calls [.int p2] [] E w_RX10_127 (hroom 0 1 (by decide) (by decide)) hAA (c10_isLaw _ κ A (HS κ A s0) _  he2) (fun _ h => h) (fun _ _ _ h _ _ => h) rfl rfl (Nat.le_of_ble_eq_true rfl) d_c10_draftFollows_106 ⟨Nat.zero_le _, Nat.zero_le _⟩ ?_
    refine j_if_ne (tgt := 114) E d_c10_draftFollows_109 (by decide) (fun h4 => ?_) (fun h4 => ?_)
    · replace hF := g_f hF h4
      refine j_blk (pc' := 115) (lv' := [(0, .ref a0), (1, .int p1), (2, .int p2), (3, .int p3)]) (st' := [.ref a0]) E b_c10_draftFollows_114_1 rfl ?_
      replace hF := obd_at hF
      obtain ⟨v5, ev5, hF⟩ := hF
      refine j_getf E fg_RX10_27 d_c10_draftFollows_115 ev5 ?_
      refine j_blk (pc' := 119) (lv' := [(0, .ref a0), (1, .int p1), (2, .int p2), (3, .int p3)]) (st' := [.int p2, v5]) E b_c10_draftFollows_118_1 rfl ?_
      replace hF := orf_at hF
      obtain ⟨b6, rfl, hF⟩ := hF
      replace hF := obd_at hF
      obtain ⟨s7, es7, hF⟩ := hF
      refine j_put E fp_RX10_130 d_c10_draftFollows_119 rfl rfl es7 hAA ?_
      refine j_blk (pc' := 123) (lv' := [(0, .ref a0), (1, .int p1), (2, .int p2), (3, .int p3)]) (st' := [.int (Int32.ofInt 1)]) E b_c10_draftFollows_122_1 rfl ?_
      have e : res = (Int32.ofInt 1, s7) := g_inj hF
      subst e
      refine j_wid (k' := 1) (n' := 1) (by decide) (by decide) ?_
      exact j_zret E hQ nb_1 d_c10_draftFollows_123 (fun _ h => h)
    · replace hF := g_t hF h4
      refine j_blk (pc' := 113) (lv' := [(0, .ref a0), (1, .int p1), (2, .int p2), (3, .int p3)]) (st' := [.int (Int32.ofInt 0)]) E b_c10_draftFollows_112_1 rfl ?_
      have e : res = (Int32.ofInt 0, s0) := g_inj hF
      subst e
      refine j_wid (k' := 1) (n' := 1) (by decide) (by decide) ?_
      exact j_zret E hQ nb_0 d_c10_draftFollows_113 (fun _ h => h)
  · replace hF := g_f hF h1
    rcases Decidable.em (p1 = 112) with h8 | h8
    · replace hF := g_t hF h8
      refine j_lkp (tgt := 44) (off := 43) E d_c10_draftFollows_1 (by decide) (by rw [h8]; decide) (by decide) ?_
      refine j_blk (pc' := 46) (lv' := [(0, .ref a0), (1, .int p1), (2, .int p2), (3, .int p3)]) (st' := [.int p3, .int p2]) E b_c10_draftFollows_44_2 rfl ?_
      replace hF := obd_at hF
      obtain ⟨v10, he9, hF⟩ := hF
      refine j_calls [.int p2, .int p3] [] E w_RX10_165 (hroom 0 2 (by decide) (by decide)) hAA (c10_isPerson _ κ A (HS κ A s0) _ _  he9) (fun _ h => h) (fun _ _ _ h _ _ => h) rfl rfl (Nat.le_of_ble_eq_true rfl) d_c10_draftFollows_46 ⟨Nat.zero_le _, Nat.zero_le _⟩ ?_
      refine j_if_eq (tgt := 64) E d_c10_draftFollows_49 (by decide) (fun h11 => ?_) (fun h11 => ?_)
      · replace hF := g_t hF h11
        refine j_blk (pc' := 65) (lv' := [(0, .ref a0), (1, .int p1), (2, .int p2), (3, .int p3)]) (st' := [.int (Int32.ofInt 0)]) E b_c10_draftFollows_64_1 rfl ?_
        have e : res = (Int32.ofInt 0, s0) := g_inj hF
        subst e
        refine j_wid (k' := 1) (n' := 1) (by decide) (by decide) ?_
        exact j_zret E hQ nb_0 d_c10_draftFollows_65 (fun _ h => h)
      · replace hF := g_f hF h11
        refine j_blk (pc' := 53) (lv' := [(0, .ref a0), (1, .int p1), (2, .int p2), (3, .int p3)]) (st' := [.ref a0]) E b_c10_draftFollows_52_1 rfl ?_
        replace hF := obd_at hF
        obtain ⟨v12, ev12, hF⟩ := hF
        refine j_getf E fg_RX10_27 d_c10_draftFollows_53 ev12 ?_
        replace hF := orf_at hF
        obtain ⟨b13, rfl, hF⟩ := hF
        replace hF := obd_at hF
        obtain ⟨v14, ev14, hF⟩ := hF
        refine j_getI E fg_RX10_111 d_c10_draftFollows_56 ev14 ?_
        refine j_blk (pc' := 61) (lv' := [(0, .ref a0), (1, .int p1), (2, .int p2), (3, .int p3)]) (st' := [.int ((Int8.ofInt 7).toInt32), .int v14]) E b_c10_draftFollows_59_1 rfl ?_
        refine j_icmp_lt (tgt := 66) E d_c10_draftFollows_61 (by decide) (fun h15 => ?_) (fun h15 => ?_)
        · replace hF := g_t hF h15
          refine j_blk (pc' := 67) (lv' := [(0, .ref a0), (1, .int p1), (2, .int p2), (3, .int p3)]) (st' := [.ref a0]) E b_c10_draftFollows_66_1 rfl ?_
          replace hF := obd_at hF
          obtain ⟨v16, ev16, hF⟩ := hF
          refine j_getf E fg_RX10_27 d_c10_draftFollows_67 ev16 ?_
          refine j_blk (pc' := 72) (lv' := [(0, .ref a0), (1, .int p1), (2, .int p2), (3, .int p3)]) (st' := [.int p3, .int p2, v16]) E b_c10_draftFollows_70_2 rfl ?_
          replace hF := orf_at hF
          obtain ⟨b17, rfl, hF⟩ := hF
          replace hF := obd_at hF
          obtain ⟨⟨v20, s19⟩, he18, hF⟩ := hF
          refine j_calls [.int p2, .int p3] [.ref b17] E w_RX10_168 (hroom 4 2 (by decide) (by decide)) hAA (c10_newPerson _ κ A hκ _ _ _ he18) (fun _ h => h) (fun _ _ _ h _ _ => h) rfl rfl (Nat.le_of_ble_eq_true rfl) d_c10_draftFollows_72 ⟨by rw [hR]; decide, by rw [hR]; decide⟩ ?_
          replace hF := orf_at hF
          obtain ⟨b21, rfl, hF⟩ := hF
          replace hF := ocl_at hF
          obtain ⟨hc, hF⟩ := hF
          replace hF := obd_at hF
          obtain ⟨s23, he22, hF⟩ := hF
          refine j_callv [.ref b21] [] E w_RX10_113 (hroom 0 3 (by decide) (by decide)) hAA (c2_seat _ κ A _ _ _  he22) (fun _ h => h) (fun _ _ _ h _ _ => h) (fun _ h => j_recv E h hc rfl) rfl rfl (Nat.le_of_ble_eq_true rfl) d_c10_draftFollows_75 ⟨by rw [hR]; decide, by rw [hR]; decide⟩ ?_
          refine j_blk (pc' := 79) (lv' := [(0, .ref a0), (1, .int p1), (2, .int p2), (3, .int p3)]) (st' := [.int (Int32.ofInt 1)]) E b_c10_draftFollows_78_1 rfl ?_
          have e : res = (Int32.ofInt 1, s23) := g_inj hF
          subst e
          refine j_wid (k' := 1) (n' := 1) (by decide) (by decide) ?_
          exact j_zret E hQ nb_1 d_c10_draftFollows_79 (fun _ h => h)
        · replace hF := g_f hF h15
          refine j_blk (pc' := 65) (lv' := [(0, .ref a0), (1, .int p1), (2, .int p2), (3, .int p3)]) (st' := [.int (Int32.ofInt 0)]) E b_c10_draftFollows_64_1 rfl ?_
          have e : res = (Int32.ofInt 0, s0) := g_inj hF
          subst e
          refine j_wid (k' := 1) (n' := 1) (by decide) (by decide) ?_
          exact j_zret E hQ nb_0 d_c10_draftFollows_65 (fun _ h => h)
    · replace hF := g_f hF h8
      rcases Decidable.em (p1 = 117) with h24 | h24
      · replace hF := g_t hF h24
        refine j_lkp (tgt := 124) (off := 123) E d_c10_draftFollows_1 (by decide) (by rw [h24]; decide) (by decide) ?_
        refine j_blk (pc' := 125) (lv' := [(0, .ref a0), (1, .int p1), (2, .int p2), (3, .int p3)]) (st' := [.ref a0]) E b_c10_draftFollows_124_1 rfl ?_
        replace hF := obd_at hF
        obtain ⟨v25, ev25, hF⟩ := hF
        refine j_getf E fg_RX10_27 d_c10_draftFollows_125 ev25 ?_
        replace hF := orf_at hF
        obtain ⟨b26, rfl, hF⟩ := hF
        replace hF := obd_at hF
        obtain ⟨v27, ev27, hF⟩ := hF
        refine j_getI E fg_RX10_111 d_c10_draftFollows_128 ev27 ?_
        refine j_if_ne (tgt := 136) E d_c10_draftFollows_131 (by decide) (fun h28 => ?_) (fun h28 => ?_)
        · replace hF := g_f hF h28
          refine j_blk (pc' := 137) (lv' := [(0, .ref a0), (1, .int p1), (2, .int p2), (3, .int p3)]) (st' := [.ref a0]) E b_c10_draftFollows_136_1 rfl ?_
          replace hF := obd_at hF
          obtain ⟨v29, ev29, hF⟩ := hF
          refine j_getf E fg_RX10_27 d_c10_draftFollows_137 ev29 ?_
          refine j_blk (pc' := 141) (lv' := [(0, .ref a0), (1, .int p1), (2, .int p2), (3, .int p3)]) (st' := [.ref a0, v29]) E b_c10_draftFollows_140_1 rfl ?_
          replace hF := obd_at hF
          obtain ⟨v30, ev30, hF⟩ := hF
          refine j_getf E fg_RX10_27 d_c10_draftFollows_141 ev30 ?_
          replace hF := orf_at hF
          obtain ⟨b31, rfl, hF⟩ := hF
          replace hF := obd_at hF
          obtain ⟨v32, ev32, hF⟩ := hF
          refine j_getI E fg_RX10_111 d_c10_draftFollows_144 ev32 ?_
          refine j_blk (pc' := 149) (lv' := [(0, .ref a0), (1, .int p1), (2, .int p2), (3, .int p3)]) (st' := [.int (v32 - (Int32.ofInt 1)), v29]) E b_c10_draftFollows_147_2 rfl ?_
          replace hF := orf_at hF
          obtain ⟨b33, rfl, hF⟩ := hF
          replace hF := ocl_at hF
          obtain ⟨hc, hF⟩ := hF
          replace hF := obd_at hF
          obtain ⟨s35, he34, hF⟩ := hF
          refine j_callv [.int (v32 - (Int32.ofInt 1))] [] E w_RX10_175 (hroom 1 4 (by decide) (by decide)) hAA (c2_unseat _ κ A _ _ _  he34) (fun _ h => h) (fun _ _ _ h _ _ => h) (fun _ h => j_recv E h hc rfl) rfl rfl (Nat.le_of_ble_eq_true rfl) d_c10_draftFollows_149 ⟨Nat.zero_le _, Nat.zero_le _⟩ ?_
          refine j_blk (pc' := 153) (lv' := [(0, .ref a0), (1, .int p1), (2, .int p2), (3, .int p3)]) (st' := [.int (Int32.ofInt 1)]) E b_c10_draftFollows_152_1 rfl ?_
          have e : res = (Int32.ofInt 1, s35) := g_inj hF
          subst e
          refine j_wid (k' := 1) (n' := 1) (by decide) (by decide) ?_
          exact j_zret E hQ nb_1 d_c10_draftFollows_153 (fun _ h => h)
        · replace hF := g_t hF h28
          refine j_blk (pc' := 135) (lv' := [(0, .ref a0), (1, .int p1), (2, .int p2), (3, .int p3)]) (st' := [.int (Int32.ofInt 0)]) E b_c10_draftFollows_134_1 rfl ?_
          have e : res = (Int32.ofInt 0, s0) := g_inj hF
          subst e
          refine j_wid (k' := 1) (n' := 1) (by decide) (by decide) ?_
          exact j_zret E hQ nb_0 d_c10_draftFollows_135 (fun _ h => h)
      · replace hF := g_f hF h24
        rcases Decidable.em (p1 = 119) with h36 | h36
        · replace hF := g_t hF h36
          refine j_lkp (tgt := 80) (off := 79) E d_c10_draftFollows_1 (by decide) (by rw [h36]; decide) (by decide) ?_
          refine j_blk (pc' := 81) (lv' := [(0, .ref a0), (1, .int p1), (2, .int p2), (3, .int p3)]) (st' := [.ref a0]) E b_c10_draftFollows_80_1 rfl ?_
          replace hF := obd_at hF
          obtain ⟨v37, ev37, hF⟩ := hF
          refine j_getf E fg_RX10_27 d_c10_draftFollows_81 ev37 ?_
          refine j_blk (pc' := 86) (lv' := [(0, .ref a0), (1, .int p1), (2, .int p2), (3, .int p3)]) (st' := [.int p3, .int p2, v37]) E b_c10_draftFollows_84_2 rfl ?_
          replace hF := orf_at hF
          obtain ⟨b38, rfl, hF⟩ := hF
          replace hF := ocl_at hF
          obtain ⟨hc, hF⟩ := hF
          replace hF := obd_at hF
          obtain ⟨v40, he39, hF⟩ := hF
          refine j_callv [.int p2, .int p3] [] E w_RX10_116 (hroom 1 3 (by decide) (by decide)) hAA (c2_hasBoth _ κ A _ _ _ _  he39) (fun _ h => h) (fun _ _ _ h _ _ => h) (fun _ h => j_recv E h hc rfl) rfl rfl (Nat.le_of_ble_eq_true rfl) d_c10_draftFollows_86 ⟨Nat.zero_le _, Nat.zero_le _⟩ ?_
          refine j_if_ne (tgt := 94) E d_c10_draftFollows_89 (by decide) (fun h41 => ?_) (fun h41 => ?_)
          · replace hF := g_f hF h41
            refine j_blk (pc' := 95) (lv' := [(0, .ref a0), (1, .int p1), (2, .int p2), (3, .int p3)]) (st' := [.ref a0]) E b_c10_draftFollows_94_1 rfl ?_
            replace hF := obd_at hF
            obtain ⟨v42, ev42, hF⟩ := hF
            refine j_getf E fg_RX10_27 d_c10_draftFollows_95 ev42 ?_
            refine j_blk (pc' := 100) (lv' := [(0, .ref a0), (1, .int p1), (2, .int p2), (3, .int p3)]) (st' := [.int p3, .int p2, v42]) E b_c10_draftFollows_98_2 rfl ?_
            replace hF := orf_at hF
            obtain ⟨b43, rfl, hF⟩ := hF
            replace hF := ocl_at hF
            obtain ⟨hc, hF⟩ := hF
            replace hF := obd_at hF
            obtain ⟨s45, he44, hF⟩ := hF
            refine j_callv [.int p2, .int p3] [] E w_RX10_123 (hroom 0 3 (by decide) (by decide)) hAA (c2_win _ κ A _ _ _ _  he44) (fun _ h => h) (fun _ _ _ h _ _ => h) (fun _ h => j_recv E h hc rfl) rfl rfl (Nat.le_of_ble_eq_true rfl) d_c10_draftFollows_100 ⟨Nat.zero_le _, Nat.zero_le _⟩ ?_
            refine j_blk (pc' := 104) (lv' := [(0, .ref a0), (1, .int p1), (2, .int p2), (3, .int p3)]) (st' := [.int (Int32.ofInt 1)]) E b_c10_draftFollows_103_1 rfl ?_
            have e : res = (Int32.ofInt 1, s45) := g_inj hF
            subst e
            refine j_wid (k' := 1) (n' := 1) (by decide) (by decide) ?_
            exact j_zret E hQ nb_1 d_c10_draftFollows_104 (fun _ h => h)
          · replace hF := g_t hF h41
            refine j_blk (pc' := 93) (lv' := [(0, .ref a0), (1, .int p1), (2, .int p2), (3, .int p3)]) (st' := [.int (Int32.ofInt 0)]) E b_c10_draftFollows_92_1 rfl ?_
            have e : res = (Int32.ofInt 0, s0) := g_inj hF
            subst e
            refine j_wid (k' := 1) (n' := 1) (by decide) (by decide) ?_
            exact j_zret E hQ nb_0 d_c10_draftFollows_93 (fun _ h => h)
        · replace hF := g_f hF h36
          refine j_lkp (tgt := 154) (off := 153) E d_c10_draftFollows_1 (by decide) ((lv_osw h1 (by decide)).trans ((lv_osw h8 (by decide)).trans ((lv_osw h24 (by decide)).trans ((lv_osw h36 (by decide)).trans rfl)))) (by decide) ?_
          refine j_blk (pc' := 155) (lv' := [(0, .ref a0), (1, .int p1), (2, .int p2), (3, .int p3)]) (st' := [.int (Int32.ofInt 0)]) E b_c10_draftFollows_154_1 rfl ?_
          have e : res = (Int32.ofInt 0, s0) := g_inj hF
          subst e
          refine j_wid (k' := 1) (n' := 1) (by decide) (by decide) ?_
          exact j_zret E hQ nb_0 d_c10_draftFollows_155 (fun _ h => h)
theorem b_c10_lawfulTurns_0_1 : bdec cX10_lawfulTurns 0 [.aload_n 0] = true := by decide +kernel
theorem d_c10_lawfulTurns_1 : decode cX10_lawfulTurns 1 = .ok (.getfield 27, 3) := by decide +kernel
theorem b_c10_lawfulTurns_4_1 : bdec cX10_lawfulTurns 4 [.aload_n 0] = true := by decide +kernel
theorem d_c10_lawfulTurns_5 : decode cX10_lawfulTurns 5 = .ok (.getfield 23, 3) := by decide +kernel
theorem d_c10_lawfulTurns_8 : decode cX10_lawfulTurns 8 = .ok (.invokevirtual 63, 3) := by decide +kernel
theorem b_c10_lawfulTurns_11_4 : bdec cX10_lawfulTurns 11 [.iconst 0, .istore_n 1, .iconst 0, .istore_n 2] = true := by decide +kernel
theorem b_c10_lawfulTurns_15_2 : bdec cX10_lawfulTurns 15 [.iload_n 2, .aload_n 0] = true := by decide +kernel
theorem d_c10_lawfulTurns_17 : decode cX10_lawfulTurns 17 = .ok (.getfield 27, 3) := by decide +kernel
theorem d_c10_lawfulTurns_20 : decode cX10_lawfulTurns 20 = .ok (.invokevirtual 147, 3) := by decide +kernel
theorem d_c10_lawfulTurns_23 : decode cX10_lawfulTurns 23 = .ok (.if_icmp .ge 38, 3) := by decide +kernel
theorem b_c10_lawfulTurns_26_1 : bdec cX10_lawfulTurns 26 [.aload_n 0] = true := by decide +kernel
theorem d_c10_lawfulTurns_27 : decode cX10_lawfulTurns 27 = .ok (.getfield 27, 3) := by decide +kernel
theorem b_c10_lawfulTurns_30_1 : bdec cX10_lawfulTurns 30 [.iload_n 2] = true := by decide +kernel
theorem d_c10_lawfulTurns_31 : decode cX10_lawfulTurns 31 = .ok (.invokevirtual 288, 3) := by decide +kernel
theorem b_c10_lawfulTurns_34_1 : bdec cX10_lawfulTurns 34 [.aload_n 0] = true := by decide +kernel
theorem d_c10_lawfulTurns_35 : decode cX10_lawfulTurns 35 = .ok (.getfield 27, 3) := by decide +kernel
theorem d_c10_lawfulTurns_38 : decode cX10_lawfulTurns 38 = .ok (.invokevirtual 133, 3) := by decide +kernel
theorem d_c10_lawfulTurns_41 : decode cX10_lawfulTurns 41 = .ok (.ifCond .eq 6, 3) := by decide +kernel
theorem b_c10_lawfulTurns_47_1 : bdec cX10_lawfulTurns 47 [.aload_n 0] = true := by decide +kernel
theorem d_c10_lawfulTurns_48 : decode cX10_lawfulTurns 48 = .ok (.getfield 27, 3) := by decide +kernel
theorem b_c10_lawfulTurns_51_1 : bdec cX10_lawfulTurns 51 [.iload_n 2] = true := by decide +kernel
theorem d_c10_lawfulTurns_52 : decode cX10_lawfulTurns 52 = .ok (.invokevirtual 288, 3) := by decide +kernel
theorem b_c10_lawfulTurns_55_1 : bdec cX10_lawfulTurns 55 [.iinc 2 1] = true := by decide +kernel
theorem d_c10_lawfulTurns_58 : decode cX10_lawfulTurns 58 = .ok (.goto (-43), 3) := by decide +kernel
theorem b_c10_lawfulTurns_44_2 : bdec cX10_lawfulTurns 44 [.iinc 1 1, .aload_n 0] = true := by decide +kernel
theorem b_c10_lawfulTurns_61_1 : bdec cX10_lawfulTurns 61 [.iload_n 1] = true := by decide +kernel
theorem d_c10_lawfulTurns_62 : decode cX10_lawfulTurns 62 = .ok (.ireturn, 1) := by decide +kernel
def f10_lawfulTurns_L15 (a0 : Nat) (w : Int32 × Int32 × HM) : Option ((Int32 × Int32 × HM) ⊕ (Int32 × HM)) := match w with
  | (x15_1, x15_2, s15) => obd (hfld s15 [10] 2 a0) (fun v8 => orf v8 (fun b9 => ocl s15 b9 2 (obd (f2_matches s15 b9) (fun v11 => if v11 ≤ x15_2 then (some (.inr (x15_1, s15))) else (obd (hfld s15 [10] 2 a0) (fun v13 => orf v13 (fun b14 => ocl s15 b14 2 (obd (f2_turn s15 b14 x15_2) (fun s16 => obd (hfld s16 [10] 2 a0) (fun v17 => orf v17 (fun b18 => ocl s16 b18 2 (obd (f2_isLawful s16 b18) (fun v20 => if v20 = 0 then (obd (hfld s16 [10] 2 a0) (fun v22 => orf v22 (fun b23 => ocl s16 b23 2 (obd (f2_turn s16 b23 x15_2) (fun s25 => some (.inl (x15_1, x15_2 + Int32.ofInt 1, s25))))))) else (obd (hfld s16 [10] 2 a0) (fun v26 => orf v26 (fun b27 => ocl s16 b27 2 (obd (f2_turn s16 b27 x15_2) (fun s29 => some (.inl (x15_1 + Int32.ofInt 1, x15_2 + Int32.ofInt 1, s29))))))))))))))))))))
def f10_lawfulTurns (s0 : HM) (a0 : Nat) : Option (Int32 × HM) := obd (hfld s0 [10] 2 a0) (fun v1 => obd (hfld s0 [10] 1 a0) (fun v2 => orf v2 (fun b3 => orf v1 (fun b4 => ocl s0 b4 2 (obd (f2_become s0 b4 b3) (fun s6 => obd (iter (f10_lawfulTurns_L15 a0) FU (Int32.ofInt 0, Int32.ofInt 0, s6)) (fun o7 => match o7 with | (e15_1, t15) => some (e15_1, t15))))))))
set_option maxRecDepth 100000 in
set_option maxHeartbeats 4000000 in
theorem c10_lawfulTurns (l : Launch) (κ : KP) (A : Nat → Prop) (s0 : HM) (a0 : Nat) {res : Int32 × HM} (hF : f10_lawfulTurns s0 a0 = some res) : Met l yX10_lawfulTurns (Cond.code yX10_lawfulTurns cX10_lawfulTurns 3 (some .int) :: WT) (rmL 5 0 0) (PP κ A [.ref a0] (HS κ A s0)) (QQ (some (.int res.1)) (HS κ A res.2) A) 0 0 A := by
  refine met_of (own := RX10) (by decide) rfl (Nat.le_of_ble_eq_true rfl) ?_
  intro Γ E hQ hL hR hA hent hini
  have hAA : ∀ q, A q → jA Γ q := fun q h => by rw [hA]; exact h
  have hroom : ∀ (d mL : Nat) {mc ms : Nat}, d < 5 → mL ≤ 21 → (rmL d mc ms).frames + 1 ≤ (jR Γ).frames ∧ 8 + (mL + 11) + (rmL d mc ms).locals ≤ (jR Γ).locals := fun d mL mc ms h1 h2 => by rw [hR]; exact rmL_le h1 h2
  show J Γ 3 (HS κ A s0) 0 0 0 [(0, .ref a0)] []
  unfold f10_lawfulTurns at hF
  refine j_blk (pc' := 1) (lv' := [(0, .ref a0)]) (st' := [.ref a0]) E b_c10_lawfulTurns_0_1 rfl ?_
  replace hF := obd_at hF
  obtain ⟨v1, ev1, hF⟩ := hF
  refine j_getf E fg_RX10_27 d_c10_lawfulTurns_1 ev1 ?_
  refine j_blk (pc' := 5) (lv' := [(0, .ref a0)]) (st' := [.ref a0, v1]) E b_c10_lawfulTurns_4_1 rfl ?_
  replace hF := obd_at hF
  obtain ⟨v2, ev2, hF⟩ := hF
  refine j_getf E fg_RX10_23 d_c10_lawfulTurns_5 ev2 ?_
  replace hF := orf_at hF
  obtain ⟨b3, rfl, hF⟩ := hF
  replace hF := orf_at hF
  obtain ⟨b4, rfl, hF⟩ := hF
  replace hF := ocl_at hF
  obtain ⟨hc, hF⟩ := hF
  replace hF := obd_at hF
  obtain ⟨s6, he5, hF⟩ := hF
  refine j_callv [.ref b3] [] E w_RX10_63 (hroom 0 3 (by decide) (by decide)) hAA (c2_become _ κ A _ _ _  he5) (fun _ h => h) (fun _ _ _ h _ _ => h) (fun _ h => j_recv E h hc rfl) rfl rfl (Nat.le_of_ble_eq_true rfl) d_c10_lawfulTurns_8 ⟨Nat.zero_le _, Nat.zero_le _⟩ ?_
  refine j_blk (pc' := 15) (lv' := [(2, .int (Int32.ofInt 0)), (1, .int (Int32.ofInt 0)), (0, .ref a0)]) (st' := []) E b_c10_lawfulTurns_11_4 rfl ?_
  refine j_lv [2, 1, 0] rfl ?_
  replace hF := obd_at hF
  obtain ⟨o7, ho7, hF⟩ := hF
  have lpo7 : ∀ (fu : Nat) (w : Int32 × Int32 × HM) (o : Int32 × HM), iter (f10_lawfulTurns_L15 a0) fu w = some o → (fun (o : Int32 × HM) => J Γ 3 (HS κ A o.2) 0 0 61 [(1, .int o.1)] []) o → (fun (w : Int32 × Int32 × HM) => J Γ 3 (HS κ A w.2.2) 0 0 15 [(0, .ref a0), (1, .int w.1), (2, .int w.2.1)] []) w := by
    refine j_iter (P := fun (w : Int32 × Int32 × HM) => J Γ 3 (HS κ A w.2.2) 0 0 15 [(0, .ref a0), (1, .int w.1), (2, .int w.2.1)] []) (G := fun (o : Int32 × HM) => J Γ 3 (HS κ A o.2) 0 0 61 [(1, .int o.1)] []) ?_
    rintro ⟨x15_1, x15_2, s15⟩ q hF hI hO
    show J Γ 3 (HS κ A s15) 0 0 15 [(0, .ref a0), (1, .int x15_1), (2, .int x15_2)] []
    unfold f10_lawfulTurns_L15 at hF
    refine j_blk (pc' := 17) (lv' := [(0, .ref a0), (1, .int x15_1), (2, .int x15_2)]) (st' := [.ref a0, .int x15_2]) E b_c10_lawfulTurns_15_2 rfl ?_
    replace hF := obd_at hF
    obtain ⟨v8, ev8, hF⟩ := hF
    refine j_getf E fg_RX10_27 d_c10_lawfulTurns_17 ev8 ?_
    replace hF := orf_at hF
    obtain ⟨b9, rfl, hF⟩ := hF
    replace hF := ocl_at hF
    obtain ⟨hc, hF⟩ := hF
    replace hF := obd_at hF
    obtain ⟨v11, he10, hF⟩ := hF
    refine j_callv [] [.int x15_2] E w_RX10_147 (hroom 0 1 (by decide) (by decide)) hAA (c2_matches _ κ A _ _  he10) (fun _ h => h) (fun _ _ _ h _ _ => h) (fun _ h => j_recv E h hc rfl) rfl rfl (Nat.le_of_ble_eq_true rfl) d_c10_lawfulTurns_20 ⟨Nat.zero_le _, Nat.zero_le _⟩ ?_
    refine j_icmp_ge (tgt := 61) E d_c10_lawfulTurns_23 (by decide) (fun h12 => ?_) (fun h12 => ?_)
    · replace hF := g_t hF h12
      refine j_lv [1] rfl ?_
      exact hO _ (g_inj hF)
    · replace hF := g_f hF h12
      refine j_blk (pc' := 27) (lv' := [(0, .ref a0), (1, .int x15_1), (2, .int x15_2)]) (st' := [.ref a0]) E b_c10_lawfulTurns_26_1 rfl ?_
      replace hF := obd_at hF
      obtain ⟨v13, ev13, hF⟩ := hF
      refine j_getf E fg_RX10_27 d_c10_lawfulTurns_27 ev13 ?_
      refine j_blk (pc' := 31) (lv' := [(0, .ref a0), (1, .int x15_1), (2, .int x15_2)]) (st' := [.int x15_2, v13]) E b_c10_lawfulTurns_30_1 rfl ?_
      replace hF := orf_at hF
      obtain ⟨b14, rfl, hF⟩ := hF
      replace hF := ocl_at hF
      obtain ⟨hc, hF⟩ := hF
      replace hF := obd_at hF
      obtain ⟨s16, he15, hF⟩ := hF
      refine j_callv [.int x15_2] [] E w_RX10_288 (hroom 0 2 (by decide) (by decide)) hAA (c2_turn _ κ A _ _ _  he15) (fun _ h => h) (fun _ _ _ h _ _ => h) (fun _ h => j_recv E h hc rfl) rfl rfl (Nat.le_of_ble_eq_true rfl) d_c10_lawfulTurns_31 ⟨Nat.zero_le _, Nat.zero_le _⟩ ?_
      refine j_blk (pc' := 35) (lv' := [(0, .ref a0), (1, .int x15_1), (2, .int x15_2)]) (st' := [.ref a0]) E b_c10_lawfulTurns_34_1 rfl ?_
      replace hF := obd_at hF
      obtain ⟨v17, ev17, hF⟩ := hF
      refine j_getf E fg_RX10_27 d_c10_lawfulTurns_35 ev17 ?_
      replace hF := orf_at hF
      obtain ⟨b18, rfl, hF⟩ := hF
      replace hF := ocl_at hF
      obtain ⟨hc, hF⟩ := hF
      replace hF := obd_at hF
      obtain ⟨v20, he19, hF⟩ := hF
      refine j_callv [] [] E w_RX10_133 (hroom 4 1 (by decide) (by decide)) hAA (c2_isLawful _ κ A _ _  he19) (fun _ h => h) (fun _ _ _ h _ _ => h) (fun _ h => j_recv E h hc rfl) rfl rfl (Nat.le_of_ble_eq_true rfl) d_c10_lawfulTurns_38 ⟨Nat.zero_le _, Nat.zero_le _⟩ ?_
      refine j_if_eq (tgt := 47) E d_c10_lawfulTurns_41 (by decide) (fun h21 => ?_) (fun h21 => ?_)
      · replace hF := g_t hF h21
        refine j_blk (pc' := 48) (lv' := [(0, .ref a0), (1, .int x15_1), (2, .int x15_2)]) (st' := [.ref a0]) E b_c10_lawfulTurns_47_1 rfl ?_
        replace hF := obd_at hF
        obtain ⟨v22, ev22, hF⟩ := hF
        refine j_getf E fg_RX10_27 d_c10_lawfulTurns_48 ev22 ?_
        refine j_blk (pc' := 52) (lv' := [(0, .ref a0), (1, .int x15_1), (2, .int x15_2)]) (st' := [.int x15_2, v22]) E b_c10_lawfulTurns_51_1 rfl ?_
        replace hF := orf_at hF
        obtain ⟨b23, rfl, hF⟩ := hF
        replace hF := ocl_at hF
        obtain ⟨hc, hF⟩ := hF
        replace hF := obd_at hF
        obtain ⟨s25, he24, hF⟩ := hF
        refine j_callv [.int x15_2] [] E w_RX10_288 (hroom 0 2 (by decide) (by decide)) hAA (c2_turn _ κ A _ _ _  he24) (fun _ h => h) (fun _ _ _ h _ _ => h) (fun _ h => j_recv E h hc rfl) rfl rfl (Nat.le_of_ble_eq_true rfl) d_c10_lawfulTurns_52 ⟨Nat.zero_le _, Nat.zero_le _⟩ ?_
        refine j_blk (pc' := 58) (lv' := [(2, .int (x15_2 + Int32.ofInt 1)), (0, .ref a0), (1, .int x15_1)]) (st' := []) E b_c10_lawfulTurns_55_1 rfl ?_
        refine j_goto (tgt := 15) E d_c10_lawfulTurns_58 (by decide) ?_
        refine j_lv [1, 2, 0] rfl ?_
        exact hI _ (g_inj hF)
      · replace hF := g_f hF h21
        refine j_blk (pc' := 48) (lv' := [(1, .int (x15_1 + Int32.ofInt 1)), (0, .ref a0), (2, .int x15_2)]) (st' := [.ref a0]) E b_c10_lawfulTurns_44_2 rfl ?_
        replace hF := obd_at hF
        obtain ⟨v26, ev26, hF⟩ := hF
        refine j_getf E fg_RX10_27 d_c10_lawfulTurns_48 ev26 ?_
        refine j_blk (pc' := 52) (lv' := [(1, .int (x15_1 + Int32.ofInt 1)), (0, .ref a0), (2, .int x15_2)]) (st' := [.int x15_2, v26]) E b_c10_lawfulTurns_51_1 rfl ?_
        replace hF := orf_at hF
        obtain ⟨b27, rfl, hF⟩ := hF
        replace hF := ocl_at hF
        obtain ⟨hc, hF⟩ := hF
        replace hF := obd_at hF
        obtain ⟨s29, he28, hF⟩ := hF
        refine j_callv [.int x15_2] [] E w_RX10_288 (hroom 0 2 (by decide) (by decide)) hAA (c2_turn _ κ A _ _ _  he28) (fun _ h => h) (fun _ _ _ h _ _ => h) (fun _ h => j_recv E h hc rfl) rfl rfl (Nat.le_of_ble_eq_true rfl) d_c10_lawfulTurns_52 ⟨Nat.zero_le _, Nat.zero_le _⟩ ?_
        refine j_blk (pc' := 58) (lv' := [(2, .int (x15_2 + Int32.ofInt 1)), (1, .int (x15_1 + Int32.ofInt 1)), (0, .ref a0)]) (st' := []) E b_c10_lawfulTurns_55_1 rfl ?_
        refine j_goto (tgt := 15) E d_c10_lawfulTurns_58 (by decide) ?_
        refine j_lv [2, 1, 0] rfl ?_
        exact hI _ (g_inj hF)
  refine lpo7 FU (Int32.ofInt 0, Int32.ofInt 0, s6) o7 ho7 ?_
  obtain ⟨e15_1, t15⟩ := o7
  show J Γ 3 (HS κ A t15) 0 0 61 [(1, .int e15_1)] []
  refine j_blk (pc' := 62) (lv' := [(1, .int e15_1)]) (st' := [.int e15_1]) E b_c10_lawfulTurns_61_1 rfl ?_
  have e : res = (e15_1, t15) := g_inj hF
  subst e
  exact j_iret E hQ d_c10_lawfulTurns_62 (fun _ h => h)
theorem b_c10_lawfulWaysAsTold_0_4 : bdec cX10_lawfulWaysAsTold 0 [.iconst 0, .istore_n 1, .iconst 0, .istore_n 2] = true := by decide +kernel
theorem b_c10_lawfulWaysAsTold_4_3 : bdec cX10_lawfulWaysAsTold 4 [.iload_n 2, .iconst 1, .aload_n 0] = true := by decide +kernel
theorem d_c10_lawfulWaysAsTold_7 : decode cX10_lawfulWaysAsTold 7 = .ok (.getfield 27, 3) := by decide +kernel
theorem d_c10_lawfulWaysAsTold_10 : decode cX10_lawfulWaysAsTold 10 = .ok (.invokevirtual 147, 3) := by decide +kernel
theorem b_c10_lawfulWaysAsTold_13_1 : bdec cX10_lawfulWaysAsTold 13 [.ishl] = true := by decide +kernel
theorem d_c10_lawfulWaysAsTold_14 : decode cX10_lawfulWaysAsTold 14 = .ok (.if_icmp .ge 44, 3) := by decide +kernel
theorem b_c10_lawfulWaysAsTold_17_1 : bdec cX10_lawfulWaysAsTold 17 [.aload_n 0] = true := by decide +kernel
theorem d_c10_lawfulWaysAsTold_18 : decode cX10_lawfulWaysAsTold 18 = .ok (.getfield 27, 3) := by decide +kernel
theorem b_c10_lawfulWaysAsTold_21_1 : bdec cX10_lawfulWaysAsTold 21 [.iload_n 2] = true := by decide +kernel
theorem d_c10_lawfulWaysAsTold_22 : decode cX10_lawfulWaysAsTold 22 = .ok (.invokevirtual 182, 3) := by decide +kernel
theorem b_c10_lawfulWaysAsTold_25_1 : bdec cX10_lawfulWaysAsTold 25 [.aload_n 0] = true := by decide +kernel
theorem d_c10_lawfulWaysAsTold_26 : decode cX10_lawfulWaysAsTold 26 = .ok (.getfield 27, 3) := by decide +kernel
theorem b_c10_lawfulWaysAsTold_29_1 : bdec cX10_lawfulWaysAsTold 29 [.aload_n 0] = true := by decide +kernel
theorem d_c10_lawfulWaysAsTold_30 : decode cX10_lawfulWaysAsTold 30 = .ok (.getfield 47, 3) := by decide +kernel
theorem d_c10_lawfulWaysAsTold_33 : decode cX10_lawfulWaysAsTold 33 = .ok (.invokevirtual 294, 3) := by decide +kernel
theorem d_c10_lawfulWaysAsTold_36 : decode cX10_lawfulWaysAsTold 36 = .ok (.ifCond .eq 16, 3) := by decide +kernel
theorem b_c10_lawfulWaysAsTold_52_1 : bdec cX10_lawfulWaysAsTold 52 [.iinc 2 1] = true := by decide +kernel
theorem d_c10_lawfulWaysAsTold_55 : decode cX10_lawfulWaysAsTold 55 = .ok (.goto (-51), 3) := by decide +kernel
theorem b_c10_lawfulWaysAsTold_39_1 : bdec cX10_lawfulWaysAsTold 39 [.aload_n 0] = true := by decide +kernel
theorem d_c10_lawfulWaysAsTold_40 : decode cX10_lawfulWaysAsTold 40 = .ok (.getfield 27, 3) := by decide +kernel
theorem d_c10_lawfulWaysAsTold_43 : decode cX10_lawfulWaysAsTold 43 = .ok (.invokevirtual 133, 3) := by decide +kernel
theorem d_c10_lawfulWaysAsTold_46 : decode cX10_lawfulWaysAsTold 46 = .ok (.ifCond .eq 6, 3) := by decide +kernel
theorem b_c10_lawfulWaysAsTold_49_2 : bdec cX10_lawfulWaysAsTold 49 [.iinc 1 1, .iinc 2 1] = true := by decide +kernel
theorem b_c10_lawfulWaysAsTold_58_1 : bdec cX10_lawfulWaysAsTold 58 [.iload_n 1] = true := by decide +kernel
theorem d_c10_lawfulWaysAsTold_59 : decode cX10_lawfulWaysAsTold 59 = .ok (.ireturn, 1) := by decide +kernel
def f10_lawfulWaysAsTold_L4 (a0 : Nat) (w : Int32 × Int32 × HM) : Option ((Int32 × Int32 × HM) ⊕ (Int32 × HM)) := match w with
  | (x4_1, x4_2, s4) => obd (hfld s4 [10] 2 a0) (fun v2 => orf v2 (fun b3 => ocl s4 b3 2 (obd (f2_matches s4 b3) (fun v5 => if ((Int32.ofInt 1) <<< (v5 &&& 31)) ≤ x4_2 then (some (.inr (x4_1, s4))) else (obd (hfld s4 [10] 2 a0) (fun v7 => orf v7 (fun b8 => ocl s4 b8 2 (obd (f2_play s4 b8 x4_2) (fun s10 => obd (hfld s10 [10] 2 a0) (fun v11 => obd (hfld s10 [10] 7 a0) (fun v12 => orf v12 (fun b13 => orf v11 (fun b14 => ocl s10 b14 2 (obd (f2_isAsTold s10 b14 b13) (fun v16 => if v16 = 0 then (some (.inl (x4_1, x4_2 + Int32.ofInt 1, s10))) else (obd (hfld s10 [10] 2 a0) (fun v18 => orf v18 (fun b19 => ocl s10 b19 2 (obd (f2_isLawful s10 b19) (fun v21 => if v21 = 0 then (some (.inl (x4_1, x4_2 + Int32.ofInt 1, s10))) else (some (.inl (x4_1 + Int32.ofInt 1, x4_2 + Int32.ofInt 1, s10)))))))))))))))))))))))
def f10_lawfulWaysAsTold (s0 : HM) (a0 : Nat) : Option (Int32 × HM) := obd (iter (f10_lawfulWaysAsTold_L4 a0) FU (Int32.ofInt 0, Int32.ofInt 0, s0)) (fun o1 => match o1 with | (e4_1, t4) => some (e4_1, t4))
set_option maxRecDepth 100000 in
set_option maxHeartbeats 4000000 in
theorem c10_lawfulWaysAsTold (l : Launch) (κ : KP) (A : Nat → Prop) (s0 : HM) (a0 : Nat) {res : Int32 × HM} (hF : f10_lawfulWaysAsTold s0 a0 = some res) : Met l yX10_lawfulWaysAsTold (Cond.code yX10_lawfulWaysAsTold cX10_lawfulWaysAsTold 3 (some .int) :: WT) (rmL 5 0 0) (PP κ A [.ref a0] (HS κ A s0)) (QQ (some (.int res.1)) (HS κ A res.2) A) 0 0 A := by
  refine met_of (own := RX10) (by decide) rfl (Nat.le_of_ble_eq_true rfl) ?_
  intro Γ E hQ hL hR hA hent hini
  have hAA : ∀ q, A q → jA Γ q := fun q h => by rw [hA]; exact h
  have hroom : ∀ (d mL : Nat) {mc ms : Nat}, d < 5 → mL ≤ 21 → (rmL d mc ms).frames + 1 ≤ (jR Γ).frames ∧ 8 + (mL + 11) + (rmL d mc ms).locals ≤ (jR Γ).locals := fun d mL mc ms h1 h2 => by rw [hR]; exact rmL_le h1 h2
  show J Γ 3 (HS κ A s0) 0 0 0 [(0, .ref a0)] []
  unfold f10_lawfulWaysAsTold at hF
  refine j_blk (pc' := 4) (lv' := [(2, .int (Int32.ofInt 0)), (1, .int (Int32.ofInt 0)), (0, .ref a0)]) (st' := []) E b_c10_lawfulWaysAsTold_0_4 rfl ?_
  refine j_lv [2, 1, 0] rfl ?_
  replace hF := obd_at hF
  obtain ⟨o1, ho1, hF⟩ := hF
  have lpo1 : ∀ (fu : Nat) (w : Int32 × Int32 × HM) (o : Int32 × HM), iter (f10_lawfulWaysAsTold_L4 a0) fu w = some o → (fun (o : Int32 × HM) => J Γ 3 (HS κ A o.2) 0 0 58 [(1, .int o.1)] []) o → (fun (w : Int32 × Int32 × HM) => J Γ 3 (HS κ A w.2.2) 0 0 4 [(0, .ref a0), (1, .int w.1), (2, .int w.2.1)] []) w := by
    refine j_iter (P := fun (w : Int32 × Int32 × HM) => J Γ 3 (HS κ A w.2.2) 0 0 4 [(0, .ref a0), (1, .int w.1), (2, .int w.2.1)] []) (G := fun (o : Int32 × HM) => J Γ 3 (HS κ A o.2) 0 0 58 [(1, .int o.1)] []) ?_
    rintro ⟨x4_1, x4_2, s4⟩ q hF hI hO
    show J Γ 3 (HS κ A s4) 0 0 4 [(0, .ref a0), (1, .int x4_1), (2, .int x4_2)] []
    unfold f10_lawfulWaysAsTold_L4 at hF
    refine j_blk (pc' := 7) (lv' := [(0, .ref a0), (1, .int x4_1), (2, .int x4_2)]) (st' := [.ref a0, .int (Int32.ofInt 1), .int x4_2]) E b_c10_lawfulWaysAsTold_4_3 rfl ?_
    replace hF := obd_at hF
    obtain ⟨v2, ev2, hF⟩ := hF
    refine j_getf E fg_RX10_27 d_c10_lawfulWaysAsTold_7 ev2 ?_
    replace hF := orf_at hF
    obtain ⟨b3, rfl, hF⟩ := hF
    replace hF := ocl_at hF
    obtain ⟨hc, hF⟩ := hF
    replace hF := obd_at hF
    obtain ⟨v5, he4, hF⟩ := hF
    refine j_callv [] [.int (Int32.ofInt 1), .int x4_2] E w_RX10_147 (hroom 0 1 (by decide) (by decide)) hAA (c2_matches _ κ A _ _  he4) (fun _ h => h) (fun _ _ _ h _ _ => h) (fun _ h => j_recv E h hc rfl) rfl rfl (Nat.le_of_ble_eq_true rfl) d_c10_lawfulWaysAsTold_10 ⟨Nat.zero_le _, Nat.zero_le _⟩ ?_
    refine j_blk (pc' := 14) (lv' := [(0, .ref a0), (1, .int x4_1), (2, .int x4_2)]) (st' := [.int ((Int32.ofInt 1) <<< (v5 &&& 31)), .int x4_2]) E b_c10_lawfulWaysAsTold_13_1 rfl ?_
    refine j_icmp_ge (tgt := 58) E d_c10_lawfulWaysAsTold_14 (by decide) (fun h6 => ?_) (fun h6 => ?_)
    · replace hF := g_t hF h6
      refine j_lv [1] rfl ?_
      exact hO _ (g_inj hF)
    · replace hF := g_f hF h6
      refine j_blk (pc' := 18) (lv' := [(0, .ref a0), (1, .int x4_1), (2, .int x4_2)]) (st' := [.ref a0]) E b_c10_lawfulWaysAsTold_17_1 rfl ?_
      replace hF := obd_at hF
      obtain ⟨v7, ev7, hF⟩ := hF
      refine j_getf E fg_RX10_27 d_c10_lawfulWaysAsTold_18 ev7 ?_
      refine j_blk (pc' := 22) (lv' := [(0, .ref a0), (1, .int x4_1), (2, .int x4_2)]) (st' := [.int x4_2, v7]) E b_c10_lawfulWaysAsTold_21_1 rfl ?_
      replace hF := orf_at hF
      obtain ⟨b8, rfl, hF⟩ := hF
      replace hF := ocl_at hF
      obtain ⟨hc, hF⟩ := hF
      replace hF := obd_at hF
      obtain ⟨s10, he9, hF⟩ := hF
      refine j_callv [.int x4_2] [] E w_RX10_182 (hroom 1 3 (by decide) (by decide)) hAA (c2_play _ κ A _ _ _  he9) (fun _ h => h) (fun _ _ _ h _ _ => h) (fun _ h => j_recv E h hc rfl) rfl rfl (Nat.le_of_ble_eq_true rfl) d_c10_lawfulWaysAsTold_22 ⟨Nat.zero_le _, Nat.zero_le _⟩ ?_
      refine j_blk (pc' := 26) (lv' := [(0, .ref a0), (1, .int x4_1), (2, .int x4_2)]) (st' := [.ref a0]) E b_c10_lawfulWaysAsTold_25_1 rfl ?_
      replace hF := obd_at hF
      obtain ⟨v11, ev11, hF⟩ := hF
      refine j_getf E fg_RX10_27 d_c10_lawfulWaysAsTold_26 ev11 ?_
      refine j_blk (pc' := 30) (lv' := [(0, .ref a0), (1, .int x4_1), (2, .int x4_2)]) (st' := [.ref a0, v11]) E b_c10_lawfulWaysAsTold_29_1 rfl ?_
      replace hF := obd_at hF
      obtain ⟨v12, ev12, hF⟩ := hF
      refine j_getf E fg_RX10_47 d_c10_lawfulWaysAsTold_30 ev12 ?_
      replace hF := orf_at hF
      obtain ⟨b13, rfl, hF⟩ := hF
      replace hF := orf_at hF
      obtain ⟨b14, rfl, hF⟩ := hF
      replace hF := ocl_at hF
      obtain ⟨hc, hF⟩ := hF
      replace hF := obd_at hF
      obtain ⟨v16, he15, hF⟩ := hF
      refine j_callv [.ref b13] [] E w_RX10_294 (hroom 0 3 (by decide) (by decide)) hAA (c2_isAsTold _ κ A _ _ _  he15) (fun _ h => h) (fun _ _ _ h _ _ => h) (fun _ h => j_recv E h hc rfl) rfl rfl (Nat.le_of_ble_eq_true rfl) d_c10_lawfulWaysAsTold_33 ⟨Nat.zero_le _, Nat.zero_le _⟩ ?_
      refine j_if_eq (tgt := 52) E d_c10_lawfulWaysAsTold_36 (by decide) (fun h17 => ?_) (fun h17 => ?_)
      · replace hF := g_t hF h17
        refine j_blk (pc' := 55) (lv' := [(2, .int (x4_2 + Int32.ofInt 1)), (0, .ref a0), (1, .int x4_1)]) (st' := []) E b_c10_lawfulWaysAsTold_52_1 rfl ?_
        refine j_goto (tgt := 4) E d_c10_lawfulWaysAsTold_55 (by decide) ?_
        refine j_lv [1, 2, 0] rfl ?_
        exact hI _ (g_inj hF)
      · replace hF := g_f hF h17
        refine j_blk (pc' := 40) (lv' := [(0, .ref a0), (1, .int x4_1), (2, .int x4_2)]) (st' := [.ref a0]) E b_c10_lawfulWaysAsTold_39_1 rfl ?_
        replace hF := obd_at hF
        obtain ⟨v18, ev18, hF⟩ := hF
        refine j_getf E fg_RX10_27 d_c10_lawfulWaysAsTold_40 ev18 ?_
        replace hF := orf_at hF
        obtain ⟨b19, rfl, hF⟩ := hF
        replace hF := ocl_at hF
        obtain ⟨hc, hF⟩ := hF
        replace hF := obd_at hF
        obtain ⟨v21, he20, hF⟩ := hF
        refine j_callv [] [] E w_RX10_133 (hroom 4 1 (by decide) (by decide)) hAA (c2_isLawful _ κ A _ _  he20) (fun _ h => h) (fun _ _ _ h _ _ => h) (fun _ h => j_recv E h hc rfl) rfl rfl (Nat.le_of_ble_eq_true rfl) d_c10_lawfulWaysAsTold_43 ⟨Nat.zero_le _, Nat.zero_le _⟩ ?_
        refine j_if_eq (tgt := 52) E d_c10_lawfulWaysAsTold_46 (by decide) (fun h22 => ?_) (fun h22 => ?_)
        · replace hF := g_t hF h22
          refine j_blk (pc' := 55) (lv' := [(2, .int (x4_2 + Int32.ofInt 1)), (0, .ref a0), (1, .int x4_1)]) (st' := []) E b_c10_lawfulWaysAsTold_52_1 rfl ?_
          refine j_goto (tgt := 4) E d_c10_lawfulWaysAsTold_55 (by decide) ?_
          refine j_lv [1, 2, 0] rfl ?_
          exact hI _ (g_inj hF)
        · replace hF := g_f hF h22
          refine j_blk (pc' := 55) (lv' := [(2, .int (x4_2 + Int32.ofInt 1)), (1, .int (x4_1 + Int32.ofInt 1)), (0, .ref a0)]) (st' := []) E b_c10_lawfulWaysAsTold_49_2 rfl ?_
          refine j_goto (tgt := 4) E d_c10_lawfulWaysAsTold_55 (by decide) ?_
          refine j_lv [2, 1, 0] rfl ?_
          exact hI _ (g_inj hF)
  refine lpo1 FU (Int32.ofInt 0, Int32.ofInt 0, s0) o1 ho1 ?_
  obtain ⟨e4_1, t4⟩ := o1
  show J Γ 3 (HS κ A t4) 0 0 58 [(1, .int e4_1)] []
  refine j_blk (pc' := 59) (lv' := [(1, .int e4_1)]) (st' := [.int e4_1]) E b_c10_lawfulWaysAsTold_58_1 rfl ?_
  have e : res = (e4_1, t4) := g_inj hF
  subst e
  exact j_iret E hQ d_c10_lawfulWaysAsTold_59 (fun _ h => h)
theorem b_c10_holding_0_1 : bdec cX10_holding 0 [.aload_n 0] = true := by decide +kernel
theorem d_c10_holding_1 : decode cX10_holding 1 = .ok (.getfield 23, 3) := by decide +kernel
theorem d_c10_holding_4 : decode cX10_holding 4 = .ok (.invokevirtual 133, 3) := by decide +kernel
theorem d_c10_holding_7 : decode cX10_holding 7 = .ok (.ifCond .eq 18, 3) := by decide +kernel
theorem b_c10_holding_25_1 : bdec cX10_holding 25 [.iconst 0] = true := by decide +kernel
theorem d_c10_holding_26 : decode cX10_holding 26 = .ok (.ireturn, 1) := by decide +kernel
theorem b_c10_holding_10_1 : bdec cX10_holding 10 [.aload_n 0] = true := by decide +kernel
theorem d_c10_holding_11 : decode cX10_holding 11 = .ok (.getfield 23, 3) := by decide +kernel
theorem d_c10_holding_14 : decode cX10_holding 14 = .ok (.invokevirtual 147, 3) := by decide +kernel
theorem b_c10_holding_17_1 : bdec cX10_holding 17 [.aload_n 0] = true := by decide +kernel
theorem d_c10_holding_18 : decode cX10_holding 18 = .ok (.invokevirtual 150, 3) := by decide +kernel
theorem b_c10_holding_21_1 : bdec cX10_holding 21 [.isub] = true := by decide +kernel
theorem d_c10_holding_22 : decode cX10_holding 22 = .ok (.goto 4, 3) := by decide +kernel
def f10_holding (s0 : HM) (a0 : Nat) : Option (Int32 × HM) := obd (hfld s0 [10] 1 a0) (fun v1 => orf v1 (fun b2 => ocl s0 b2 2 (obd (f2_isLawful s0 b2) (fun v4 => if v4 = 0 then (some (Int32.ofInt 0, s0)) else (obd (hfld s0 [10] 1 a0) (fun v6 => orf v6 (fun b7 => ocl s0 b7 2 (obd (f2_matches s0 b7) (fun v9 => ocl s0 a0 10 (obd (f10_lawfulTurns s0 a0) (fun e10 => match e10 with | (v12, s11) => some (v9 - v12, s11))))))))))))
set_option maxRecDepth 100000 in
set_option maxHeartbeats 4000000 in
theorem c10_holding (l : Launch) (κ : KP) (A : Nat → Prop) (s0 : HM) (a0 : Nat) {res : Int32 × HM} (hF : f10_holding s0 a0 = some res) : Met l yX10_holding (Cond.code yX10_holding cX10_holding 1 (some .int) :: WT) (rmL 6 0 0) (PP κ A [.ref a0] (HS κ A s0)) (QQ (some (.int res.1)) (HS κ A res.2) A) 0 0 A := by
  refine met_of (own := RX10) (by decide) rfl (Nat.le_of_ble_eq_true rfl) ?_
  intro Γ E hQ hL hR hA hent hini
  have hAA : ∀ q, A q → jA Γ q := fun q h => by rw [hA]; exact h
  have hroom : ∀ (d mL : Nat) {mc ms : Nat}, d < 6 → mL ≤ 21 → (rmL d mc ms).frames + 1 ≤ (jR Γ).frames ∧ 8 + (mL + 11) + (rmL d mc ms).locals ≤ (jR Γ).locals := fun d mL mc ms h1 h2 => by rw [hR]; exact rmL_le h1 h2
  show J Γ 1 (HS κ A s0) 0 0 0 [(0, .ref a0)] []
  unfold f10_holding at hF
  refine j_blk (pc' := 1) (lv' := [(0, .ref a0)]) (st' := [.ref a0]) E b_c10_holding_0_1 rfl ?_
  replace hF := obd_at hF
  obtain ⟨v1, ev1, hF⟩ := hF
  refine j_getf E fg_RX10_23 d_c10_holding_1 ev1 ?_
  replace hF := orf_at hF
  obtain ⟨b2, rfl, hF⟩ := hF
  replace hF := ocl_at hF
  obtain ⟨hc, hF⟩ := hF
  replace hF := obd_at hF
  obtain ⟨v4, he3, hF⟩ := hF
  refine j_callv [] [] E w_RX10_133 (hroom 4 1 (by decide) (by decide)) hAA (c2_isLawful _ κ A _ _  he3) (fun _ h => h) (fun _ _ _ h _ _ => h) (fun _ h => j_recv E h hc rfl) rfl rfl (Nat.le_of_ble_eq_true rfl) d_c10_holding_4 ⟨Nat.zero_le _, Nat.zero_le _⟩ ?_
  refine j_if_eq (tgt := 25) E d_c10_holding_7 (by decide) (fun h5 => ?_) (fun h5 => ?_)
  · replace hF := g_t hF h5
    refine j_blk (pc' := 26) (lv' := [(0, .ref a0)]) (st' := [.int (Int32.ofInt 0)]) E b_c10_holding_25_1 rfl ?_
    have e : res = (Int32.ofInt 0, s0) := g_inj hF
    subst e
    exact j_iret E hQ d_c10_holding_26 (fun _ h => h)
  · replace hF := g_f hF h5
    refine j_blk (pc' := 11) (lv' := [(0, .ref a0)]) (st' := [.ref a0]) E b_c10_holding_10_1 rfl ?_
    replace hF := obd_at hF
    obtain ⟨v6, ev6, hF⟩ := hF
    refine j_getf E fg_RX10_23 d_c10_holding_11 ev6 ?_
    replace hF := orf_at hF
    obtain ⟨b7, rfl, hF⟩ := hF
    replace hF := ocl_at hF
    obtain ⟨hc, hF⟩ := hF
    replace hF := obd_at hF
    obtain ⟨v9, he8, hF⟩ := hF
    refine j_callv [] [] E w_RX10_147 (hroom 0 1 (by decide) (by decide)) hAA (c2_matches _ κ A _ _  he8) (fun _ h => h) (fun _ _ _ h _ _ => h) (fun _ h => j_recv E h hc rfl) rfl rfl (Nat.le_of_ble_eq_true rfl) d_c10_holding_14 ⟨Nat.zero_le _, Nat.zero_le _⟩ ?_
    refine j_blk (pc' := 18) (lv' := [(0, .ref a0)]) (st' := [.ref a0, .int v9]) E b_c10_holding_17_1 rfl ?_
    replace hF := ocl_at hF
    obtain ⟨hc, hF⟩ := hF
    replace hF := obd_at hF
    obtain ⟨⟨v12, s11⟩, he10, hF⟩ := hF
    refine j_callv [] [.int v9] E w_RX10_150 (hroom 5 3 (by decide) (by decide)) hAA (c10_lawfulTurns _ κ A _ _  he10) (fun _ h => h) (fun _ _ _ h _ _ => h) (fun _ h => j_recv E h hc rfl) rfl rfl (Nat.le_of_ble_eq_true rfl) d_c10_holding_18 ⟨Nat.zero_le _, Nat.zero_le _⟩ ?_
    refine j_blk (pc' := 22) (lv' := [(0, .ref a0)]) (st' := [.int (v9 - v12)]) E b_c10_holding_21_1 rfl ?_
    refine j_goto (tgt := 26) E d_c10_holding_22 (by decide) ?_
    have e : res = (v9 - v12, s11) := g_inj hF
    subst e
    exact j_iret E hQ d_c10_holding_26 (fun _ h => h)
theorem b_c10_free_0_1 : bdec cX10_free 0 [.aload_n 0] = true := by decide +kernel
theorem d_c10_free_1 : decode cX10_free 1 = .ok (.invokevirtual 150, 3) := by decide +kernel
theorem d_c10_free_4 : decode cX10_free 4 = .ok (.ireturn, 1) := by decide +kernel
def f10_free (s0 : HM) (a0 : Nat) : Option (Int32 × HM) := ocl s0 a0 10 (obd (f10_lawfulTurns s0 a0) (fun e1 => match e1 with | (v3, s2) => some (v3, s2)))
set_option maxRecDepth 100000 in
set_option maxHeartbeats 4000000 in
theorem c10_free (l : Launch) (κ : KP) (A : Nat → Prop) (s0 : HM) (a0 : Nat) {res : Int32 × HM} (hF : f10_free s0 a0 = some res) : Met l yX10_free (Cond.code yX10_free cX10_free 1 (some .int) :: WT) (rmL 6 0 0) (PP κ A [.ref a0] (HS κ A s0)) (QQ (some (.int res.1)) (HS κ A res.2) A) 0 0 A := by
  refine met_of (own := RX10) (by decide) rfl (Nat.le_of_ble_eq_true rfl) ?_
  intro Γ E hQ hL hR hA hent hini
  have hAA : ∀ q, A q → jA Γ q := fun q h => by rw [hA]; exact h
  have hroom : ∀ (d mL : Nat) {mc ms : Nat}, d < 6 → mL ≤ 21 → (rmL d mc ms).frames + 1 ≤ (jR Γ).frames ∧ 8 + (mL + 11) + (rmL d mc ms).locals ≤ (jR Γ).locals := fun d mL mc ms h1 h2 => by rw [hR]; exact rmL_le h1 h2
  show J Γ 1 (HS κ A s0) 0 0 0 [(0, .ref a0)] []
  unfold f10_free at hF
  refine j_blk (pc' := 1) (lv' := [(0, .ref a0)]) (st' := [.ref a0]) E b_c10_free_0_1 rfl ?_
  replace hF := ocl_at hF
  obtain ⟨hc, hF⟩ := hF
  replace hF := obd_at hF
  obtain ⟨⟨v3, s2⟩, he1, hF⟩ := hF
  refine j_callv [] [] E w_RX10_150 (hroom 5 3 (by decide) (by decide)) hAA (c10_lawfulTurns _ κ A _ _  he1) (fun _ h => h) (fun _ _ _ h _ _ => h) (fun _ h => j_recv E h hc rfl) rfl rfl (Nat.le_of_ble_eq_true rfl) d_c10_free_1 ⟨Nat.zero_le _, Nat.zero_le _⟩ ?_
  have e : res = (v3, s2) := g_inj hF
  subst e
  exact j_iret E hQ d_c10_free_4 (fun _ h => h)
theorem b_c10_ways_0_2 : bdec cX10_ways 0 [.iload_n 1, .iconst 1] = true := by decide +kernel
theorem d_c10_ways_2 : decode cX10_ways 2 = .ok (.if_icmp .lt 15, 3) := by decide +kernel
theorem b_c10_ways_17_1 : bdec cX10_ways 17 [.iconst (-1)] = true := by decide +kernel
theorem d_c10_ways_18 : decode cX10_ways 18 = .ok (.ireturn, 1) := by decide +kernel
theorem b_c10_ways_5_2 : bdec cX10_ways 5 [.iload_n 1, .iconst 5] = true := by decide +kernel
theorem d_c10_ways_7 : decode cX10_ways 7 = .ok (.if_icmp .gt 10, 3) := by decide +kernel
theorem b_c10_ways_10_1 : bdec cX10_ways 10 [.iload_n 2] = true := by decide +kernel
theorem d_c10_ways_11 : decode cX10_ways 11 = .ok (.invokestatic 127, 3) := by decide +kernel
theorem d_c10_ways_14 : decode cX10_ways 14 = .ok (.ifCond .ne 5, 3) := by decide +kernel
theorem b_c10_ways_19_1 : bdec cX10_ways 19 [.aload_n 0] = true := by decide +kernel
theorem d_c10_ways_20 : decode cX10_ways 20 = .ok (.getfield 27, 3) := by decide +kernel
theorem b_c10_ways_23_1 : bdec cX10_ways 23 [.iconst 0] = true := by decide +kernel
theorem d_c10_ways_24 : decode cX10_ways 24 = .ok (.putfield 111, 3) := by decide +kernel
theorem b_c10_ways_27_1 : bdec cX10_ways 27 [.aload_n 0] = true := by decide +kernel
theorem d_c10_ways_28 : decode cX10_ways 28 = .ok (.getfield 27, 3) := by decide +kernel
theorem b_c10_ways_31_1 : bdec cX10_ways 31 [.iload_n 2] = true := by decide +kernel
theorem d_c10_ways_32 : decode cX10_ways 32 = .ok (.putfield 130, 3) := by decide +kernel
theorem b_c10_ways_35_2 : bdec cX10_ways 35 [.iconst 0, .istore_n 3] = true := by decide +kernel
theorem b_c10_ways_37_2 : bdec cX10_ways 37 [.iload_n 3, .iload_n 1] = true := by decide +kernel
theorem d_c10_ways_39 : decode cX10_ways 39 = .ok (.if_icmp .ge 20, 3) := by decide +kernel
theorem b_c10_ways_42_1 : bdec cX10_ways 42 [.aload_n 0] = true := by decide +kernel
theorem d_c10_ways_43 : decode cX10_ways 43 = .ok (.getfield 27, 3) := by decide +kernel
theorem b_c10_ways_46_1 : bdec cX10_ways 46 [.aload_n 0] = true := by decide +kernel
theorem d_c10_ways_47 : decode cX10_ways 47 = .ok (.getfield 12, 3) := by decide +kernel
theorem d_c10_ways_50 : decode cX10_ways 50 = .ok (.invokevirtual 113, 3) := by decide +kernel
theorem b_c10_ways_53_1 : bdec cX10_ways 53 [.iinc 3 1] = true := by decide +kernel
theorem d_c10_ways_56 : decode cX10_ways 56 = .ok (.goto (-19), 3) := by decide +kernel
theorem b_c10_ways_59_1 : bdec cX10_ways 59 [.aload_n 0] = true := by decide +kernel
theorem d_c10_ways_60 : decode cX10_ways 60 = .ok (.invokevirtual 193, 3) := by decide +kernel
theorem b_c10_ways_63_1 : bdec cX10_ways 63 [.aload_n 0] = true := by decide +kernel
theorem d_c10_ways_64 : decode cX10_ways 64 = .ok (.invokevirtual 196, 3) := by decide +kernel
theorem d_c10_ways_67 : decode cX10_ways 67 = .ok (.ireturn, 1) := by decide +kernel
def f10_ways_L37 (a0 : Nat) (p1 : Int32) (w : Int32 × HM) : Option ((Int32 × HM) ⊕ (HM)) := match w with
  | (x37_3, s37) => if p1 ≤ x37_3 then (some (.inr s37)) else (obd (hfld s37 [10] 2 a0) (fun v14 => obd (hfld s37 [10] 0 a0) (fun v15 => orf v15 (fun b16 => orf v14 (fun b17 => ocl s37 b17 2 (obd (f2_seat s37 b17 b16) (fun s19 => some (.inl (x37_3 + Int32.ofInt 1, s19)))))))))
def f10_ways (s0 : HM) (a0 : Nat) (p1 : Int32) (p2 : Int32) : Option (Int32 × HM) := if p1 < (Int32.ofInt 1) then (some (Int32.ofInt (-1), s0)) else (if (Int32.ofInt 5) < p1 then (some (Int32.ofInt (-1), s0)) else (obd (f10_isLaw p2) (fun v4 => if v4 = 0 then (some (Int32.ofInt (-1), s0)) else (obd (hfld s0 [10] 2 a0) (fun v6 => orf v6 (fun b7 => obd (hput s0 [2] 2 b7 (.int (Int32.ofInt 0))) (fun s8 => obd (hfld s8 [10] 2 a0) (fun v9 => orf v9 (fun b10 => obd (hput s8 [2] 3 b10 (.int p2)) (fun s11 => obd (iter (f10_ways_L37 a0 p1) FU (Int32.ofInt 0, s11)) (fun o12 => match o12 with | t37 => ocl t37 a0 10 (obd (f10_clearTold t37 a0) (fun s21 => ocl s21 a0 10 (obd (f10_lawfulWaysAsTold s21 a0) (fun e22 => match e22 with | (v24, s23) => some (v24, s23))))))))))))))))
set_option maxRecDepth 100000 in
set_option maxHeartbeats 4000000 in
theorem c10_ways (l : Launch) (κ : KP) (A : Nat → Prop) (s0 : HM) (a0 : Nat) (p1 : Int32) (p2 : Int32) {res : Int32 × HM} (hF : f10_ways s0 a0 p1 p2 = some res) : Met l yX10_ways (Cond.code yX10_ways cX10_ways 4 (some .int) :: WT) (rmL 6 0 0) (PP κ A [.ref a0, .int p1, .int p2] (HS κ A s0)) (QQ (some (.int res.1)) (HS κ A res.2) A) 0 0 A := by
  refine met_of (own := RX10) (by decide) rfl (Nat.le_of_ble_eq_true rfl) ?_
  intro Γ E hQ hL hR hA hent hini
  have hAA : ∀ q, A q → jA Γ q := fun q h => by rw [hA]; exact h
  have hroom : ∀ (d mL : Nat) {mc ms : Nat}, d < 6 → mL ≤ 21 → (rmL d mc ms).frames + 1 ≤ (jR Γ).frames ∧ 8 + (mL + 11) + (rmL d mc ms).locals ≤ (jR Γ).locals := fun d mL mc ms h1 h2 => by rw [hR]; exact rmL_le h1 h2
  show J Γ 4 (HS κ A s0) 0 0 0 [(0, .ref a0), (1, .int p1), (2, .int p2)] []
  unfold f10_ways at hF
  refine j_blk (pc' := 2) (lv' := [(0, .ref a0), (1, .int p1), (2, .int p2)]) (st' := [.int (Int32.ofInt 1), .int p1]) E b_c10_ways_0_2 rfl ?_
  refine j_icmp_lt (tgt := 17) E d_c10_ways_2 (by decide) (fun h1 => ?_) (fun h1 => ?_)
  · replace hF := g_t hF h1
    refine j_blk (pc' := 18) (lv' := [(0, .ref a0), (1, .int p1), (2, .int p2)]) (st' := [.int (Int32.ofInt (-1))]) E b_c10_ways_17_1 rfl ?_
    have e : res = (Int32.ofInt (-1), s0) := g_inj hF
    subst e
    exact j_iret E hQ d_c10_ways_18 (fun _ h => h)
  · replace hF := g_f hF h1
    refine j_blk (pc' := 7) (lv' := [(0, .ref a0), (1, .int p1), (2, .int p2)]) (st' := [.int (Int32.ofInt 5), .int p1]) E b_c10_ways_5_2 rfl ?_
    refine j_icmp_gt (tgt := 17) E d_c10_ways_7 (by decide) (fun h2 => ?_) (fun h2 => ?_)
    · replace hF := g_t hF h2
      refine j_blk (pc' := 18) (lv' := [(0, .ref a0), (1, .int p1), (2, .int p2)]) (st' := [.int (Int32.ofInt (-1))]) E b_c10_ways_17_1 rfl ?_
      have e : res = (Int32.ofInt (-1), s0) := g_inj hF
      subst e
      exact j_iret E hQ d_c10_ways_18 (fun _ h => h)
    · replace hF := g_f hF h2
      refine j_blk (pc' := 11) (lv' := [(0, .ref a0), (1, .int p1), (2, .int p2)]) (st' := [.int p2]) E b_c10_ways_10_1 rfl ?_
      replace hF := obd_at hF
      obtain ⟨v4, he3, hF⟩ := hF
      refine j_calls [.int p2] [] E w_RX10_127 (hroom 0 1 (by decide) (by decide)) hAA (c10_isLaw _ κ A (HS κ A s0) _  he3) (fun _ h => h) (fun _ _ _ h _ _ => h) rfl rfl (Nat.le_of_ble_eq_true rfl) d_c10_ways_11 ⟨Nat.zero_le _, Nat.zero_le _⟩ ?_
      refine j_if_ne (tgt := 19) E d_c10_ways_14 (by decide) (fun h5 => ?_) (fun h5 => ?_)
      · replace hF := g_f hF h5
        refine j_blk (pc' := 20) (lv' := [(0, .ref a0), (1, .int p1), (2, .int p2)]) (st' := [.ref a0]) E b_c10_ways_19_1 rfl ?_
        replace hF := obd_at hF
        obtain ⟨v6, ev6, hF⟩ := hF
        refine j_getf E fg_RX10_27 d_c10_ways_20 ev6 ?_
        refine j_blk (pc' := 24) (lv' := [(0, .ref a0), (1, .int p1), (2, .int p2)]) (st' := [.int (Int32.ofInt 0), v6]) E b_c10_ways_23_1 rfl ?_
        replace hF := orf_at hF
        obtain ⟨b7, rfl, hF⟩ := hF
        replace hF := obd_at hF
        obtain ⟨s8, es8, hF⟩ := hF
        refine j_put E fp_RX10_111 d_c10_ways_24 rfl rfl es8 hAA ?_
        refine j_blk (pc' := 28) (lv' := [(0, .ref a0), (1, .int p1), (2, .int p2)]) (st' := [.ref a0]) E b_c10_ways_27_1 rfl ?_
        replace hF := obd_at hF
        obtain ⟨v9, ev9, hF⟩ := hF
        refine j_getf E fg_RX10_27 d_c10_ways_28 ev9 ?_
        refine j_blk (pc' := 32) (lv' := [(0, .ref a0), (1, .int p1), (2, .int p2)]) (st' := [.int p2, v9]) E b_c10_ways_31_1 rfl ?_
        replace hF := orf_at hF
        obtain ⟨b10, rfl, hF⟩ := hF
        replace hF := obd_at hF
        obtain ⟨s11, es11, hF⟩ := hF
        refine j_put E fp_RX10_130 d_c10_ways_32 rfl rfl es11 hAA ?_
        refine j_blk (pc' := 37) (lv' := [(3, .int (Int32.ofInt 0)), (0, .ref a0), (1, .int p1), (2, .int p2)]) (st' := []) E b_c10_ways_35_2 rfl ?_
        refine j_lv [1, 2, 0] rfl ?_
        replace hF := obd_at hF
        obtain ⟨o12, ho12, hF⟩ := hF
        have lpo12 : ∀ (fu : Nat) (w : Int32 × HM) (o : HM), iter (f10_ways_L37 a0 p1) fu w = some o → (fun (o : HM) => J Γ 4 (HS κ A o) 0 0 59 [(0, .ref a0)] []) o → (fun (w : Int32 × HM) => J Γ 4 (HS κ A w.2) 0 0 37 [(0, .ref a0), (1, .int p1), (3, .int w.1)] []) w := by
          refine j_iter (P := fun (w : Int32 × HM) => J Γ 4 (HS κ A w.2) 0 0 37 [(0, .ref a0), (1, .int p1), (3, .int w.1)] []) (G := fun (o : HM) => J Γ 4 (HS κ A o) 0 0 59 [(0, .ref a0)] []) ?_
          rintro ⟨x37_3, s37⟩ q hF hI hO
          show J Γ 4 (HS κ A s37) 0 0 37 [(0, .ref a0), (1, .int p1), (3, .int x37_3)] []
          unfold f10_ways_L37 at hF
          refine j_blk (pc' := 39) (lv' := [(0, .ref a0), (1, .int p1), (3, .int x37_3)]) (st' := [.int p1, .int x37_3]) E b_c10_ways_37_2 rfl ?_
          refine j_icmp_ge (tgt := 59) E d_c10_ways_39 (by decide) (fun h13 => ?_) (fun h13 => ?_)
          · replace hF := g_t hF h13
            refine j_lv [0] rfl ?_
            exact hO _ (g_inj hF)
          · replace hF := g_f hF h13
            refine j_blk (pc' := 43) (lv' := [(0, .ref a0), (1, .int p1), (3, .int x37_3)]) (st' := [.ref a0]) E b_c10_ways_42_1 rfl ?_
            replace hF := obd_at hF
            obtain ⟨v14, ev14, hF⟩ := hF
            refine j_getf E fg_RX10_27 d_c10_ways_43 ev14 ?_
            refine j_blk (pc' := 47) (lv' := [(0, .ref a0), (1, .int p1), (3, .int x37_3)]) (st' := [.ref a0, v14]) E b_c10_ways_46_1 rfl ?_
            replace hF := obd_at hF
            obtain ⟨v15, ev15, hF⟩ := hF
            refine j_getf E fg_RX10_12 d_c10_ways_47 ev15 ?_
            replace hF := orf_at hF
            obtain ⟨b16, rfl, hF⟩ := hF
            replace hF := orf_at hF
            obtain ⟨b17, rfl, hF⟩ := hF
            replace hF := ocl_at hF
            obtain ⟨hc, hF⟩ := hF
            replace hF := obd_at hF
            obtain ⟨s19, he18, hF⟩ := hF
            refine j_callv [.ref b16] [] E w_RX10_113 (hroom 0 3 (by decide) (by decide)) hAA (c2_seat _ κ A _ _ _  he18) (fun _ h => h) (fun _ _ _ h _ _ => h) (fun _ h => j_recv E h hc rfl) rfl rfl (Nat.le_of_ble_eq_true rfl) d_c10_ways_50 ⟨Nat.zero_le _, Nat.zero_le _⟩ ?_
            refine j_blk (pc' := 56) (lv' := [(3, .int (x37_3 + Int32.ofInt 1)), (0, .ref a0), (1, .int p1)]) (st' := []) E b_c10_ways_53_1 rfl ?_
            refine j_goto (tgt := 37) E d_c10_ways_56 (by decide) ?_
            refine j_lv [1, 2, 0] rfl ?_
            exact hI _ (g_inj hF)
        refine lpo12 FU (Int32.ofInt 0, s11) o12 ho12 ?_
        obtain ⟨t37, rfl⟩ : ∃ z, z = o12 := ⟨_, rfl⟩
        show J Γ 4 (HS κ A t37) 0 0 59 [(0, .ref a0)] []
        refine j_blk (pc' := 60) (lv' := [(0, .ref a0)]) (st' := [.ref a0]) E b_c10_ways_59_1 rfl ?_
        replace hF := ocl_at hF
        obtain ⟨hc, hF⟩ := hF
        replace hF := obd_at hF
        obtain ⟨s21, he20, hF⟩ := hF
        refine j_callv [] [] E w_RX10_193 (hroom 0 2 (by decide) (by decide)) hAA (c10_clearTold _ κ A _ _  he20) (fun _ h => h) (fun _ _ _ h _ _ => h) (fun _ h => j_recv E h hc rfl) rfl rfl (Nat.le_of_ble_eq_true rfl) d_c10_ways_60 ⟨Nat.zero_le _, Nat.zero_le _⟩ ?_
        refine j_blk (pc' := 64) (lv' := [(0, .ref a0)]) (st' := [.ref a0]) E b_c10_ways_63_1 rfl ?_
        replace hF := ocl_at hF
        obtain ⟨hc, hF⟩ := hF
        replace hF := obd_at hF
        obtain ⟨⟨v24, s23⟩, he22, hF⟩ := hF
        refine j_callv [] [] E w_RX10_196 (hroom 5 3 (by decide) (by decide)) hAA (c10_lawfulWaysAsTold _ κ A _ _  he22) (fun _ h => h) (fun _ _ _ h _ _ => h) (fun _ h => j_recv E h hc rfl) rfl rfl (Nat.le_of_ble_eq_true rfl) d_c10_ways_64 ⟨Nat.zero_le _, Nat.zero_le _⟩ ?_
        have e : res = (v24, s23) := g_inj hF
        subst e
        exact j_iret E hQ d_c10_ways_67 (fun _ h => h)
      · replace hF := g_t hF h5
        refine j_blk (pc' := 18) (lv' := [(0, .ref a0), (1, .int p1), (2, .int p2)]) (st' := [.int (Int32.ofInt (-1))]) E b_c10_ways_17_1 rfl ?_
        have e : res = (Int32.ofInt (-1), s0) := g_inj hF
        subst e
        exact j_iret E hQ d_c10_ways_18 (fun _ h => h)
theorem b_c10_played_0_1 : bdec cX10_played 0 [.iload_n 1] = true := by decide +kernel
theorem d_c10_played_1 : decode cX10_played 1 = .ok (.invokestatic 211, 3) := by decide +kernel
theorem d_c10_played_4 : decode cX10_played 4 = .ok (.ifCond .ne 5, 3) := by decide +kernel
theorem b_c10_played_9_1 : bdec cX10_played 9 [.aload_n 0] = true := by decide +kernel
theorem d_c10_played_10 : decode cX10_played 10 = .ok (.getfield 23, 3) := by decide +kernel
theorem d_c10_played_13 : decode cX10_played 13 = .ok (.getfield 111, 3) := by decide +kernel
theorem b_c10_played_16_1 : bdec cX10_played 16 [.iconst 5] = true := by decide +kernel
theorem d_c10_played_17 : decode cX10_played 17 = .ok (.if_icmp .le 6, 3) := by decide +kernel
theorem b_c10_played_23_2 : bdec cX10_played 23 [.aload_n 0, .iload_n 1] = true := by decide +kernel
theorem d_c10_played_25 : decode cX10_played 25 = .ok (.invokevirtual 51, 3) := by decide +kernel
theorem b_c10_played_28_2 : bdec cX10_played 28 [.astore_n 2, .aload_n 2] = true := by decide +kernel
theorem d_c10_played_30 : decode cX10_played 30 = .ok (.ifnonnull 9, 3) := by decide +kernel
theorem b_c10_played_33_2 : bdec cX10_played 33 [.aload_n 0, .iload_n 1] = true := by decide +kernel
theorem d_c10_played_35 : decode cX10_played 35 = .ok (.invokevirtual 55, 3) := by decide +kernel
theorem d_c10_played_38 : decode cX10_played 38 = .ok (.ireturn, 1) := by decide +kernel
theorem b_c10_played_39_1 : bdec cX10_played 39 [.aload_n 2] = true := by decide +kernel
theorem d_c10_played_40 : decode cX10_played 40 = .ok (.invokevirtual 67, 3) := by decide +kernel
theorem b_c10_played_43_1 : bdec cX10_played 43 [.iconst 2] = true := by decide +kernel
theorem d_c10_played_44 : decode cX10_played 44 = .ok (.irem, 1) := by decide +kernel
theorem d_c10_played_45 : decode cX10_played 45 = .ok (.ifCond .eq 6, 3) := by decide +kernel
theorem b_c10_played_51_1 : bdec cX10_played 51 [.aload_n 0] = true := by decide +kernel
theorem d_c10_played_52 : decode cX10_played 52 = .ok (.invokevirtual 193, 3) := by decide +kernel
theorem b_c10_played_55_2 : bdec cX10_played 55 [.iconst 0, .istore_n 3] = true := by decide +kernel
theorem b_c10_played_57_4 : bdec cX10_played 57 [.iload_n 3, .iconst 1, .iadd, .aload_n 2] = true := by decide +kernel
theorem d_c10_played_61 : decode cX10_played 61 = .ok (.invokevirtual 67, 3) := by decide +kernel
theorem d_c10_played_64 : decode cX10_played 64 = .ok (.if_icmp .ge 56, 3) := by decide +kernel
theorem b_c10_played_67_2 : bdec cX10_played 67 [.aload_n 2, .iload_n 3] = true := by decide +kernel
theorem d_c10_played_69 : decode cX10_played 69 = .ok (.invokevirtual 71, 3) := by decide +kernel
theorem b_c10_played_72_5 : bdec cX10_played 72 [.istore 4, .aload_n 2, .iload_n 3, .iconst 1, .iadd] = true := by decide +kernel
theorem d_c10_played_78 : decode cX10_played 78 = .ok (.invokevirtual 71, 3) := by decide +kernel
theorem b_c10_played_81_2 : bdec cX10_played 81 [.istore 5, .aload_n 0] = true := by decide +kernel
theorem d_c10_played_84 : decode cX10_played 84 = .ok (.getfield 23, 3) := by decide +kernel
theorem b_c10_played_87_2 : bdec cX10_played 87 [.iload 4, .iload 5] = true := by decide +kernel
theorem d_c10_played_91 : decode cX10_played 91 = .ok (.invokevirtual 116, 3) := by decide +kernel
theorem d_c10_played_94 : decode cX10_played 94 = .ok (.ifCond .ne 6, 3) := by decide +kernel
theorem b_c10_played_100_1 : bdec cX10_played 100 [.aload_n 0] = true := by decide +kernel
theorem d_c10_played_101 : decode cX10_played 101 = .ok (.getfield 47, 3) := by decide +kernel
theorem b_c10_played_104_1 : bdec cX10_played 104 [.iload 4] = true := by decide +kernel
theorem b_c10_played_106_1 : bdec cX10_played 106 [.dup2] = true := by decide +kernel
theorem d_c10_played_107 : decode cX10_played 107 = .ok (.iaload, 1) := by decide +kernel
theorem b_c10_played_108_4 : bdec cX10_played 108 [.iconst 1, .iload 5, .ishl, .ior] = true := by decide +kernel
theorem d_c10_played_113 : decode cX10_played 113 = .ok (.iastore, 1) := by decide +kernel
theorem b_c10_played_114_1 : bdec cX10_played 114 [.iinc 3 2] = true := by decide +kernel
theorem d_c10_played_117 : decode cX10_played 117 = .ok (.goto (-60), 3) := by decide +kernel
theorem b_c10_played_97_1 : bdec cX10_played 97 [.bipush (-13)] = true := by decide +kernel
theorem d_c10_played_99 : decode cX10_played 99 = .ok (.ireturn, 1) := by decide +kernel
theorem b_c10_played_120_1 : bdec cX10_played 120 [.aload_n 0] = true := by decide +kernel
theorem d_c10_played_121 : decode cX10_played 121 = .ok (.getfield 27, 3) := by decide +kernel
theorem b_c10_played_124_1 : bdec cX10_played 124 [.aload_n 0] = true := by decide +kernel
theorem d_c10_played_125 : decode cX10_played 125 = .ok (.getfield 23, 3) := by decide +kernel
theorem d_c10_played_128 : decode cX10_played 128 = .ok (.invokevirtual 63, 3) := by decide +kernel
theorem b_c10_played_131_1 : bdec cX10_played 131 [.aload_n 0] = true := by decide +kernel
theorem d_c10_played_132 : decode cX10_played 132 = .ok (.invokevirtual 196, 3) := by decide +kernel
theorem d_c10_played_135 : decode cX10_played 135 = .ok (.ireturn, 1) := by decide +kernel
theorem b_c10_played_48_1 : bdec cX10_played 48 [.bipush (-13)] = true := by decide +kernel
theorem d_c10_played_50 : decode cX10_played 50 = .ok (.ireturn, 1) := by decide +kernel
theorem b_c10_played_20_1 : bdec cX10_played 20 [.bipush (-3)] = true := by decide +kernel
theorem d_c10_played_22 : decode cX10_played 22 = .ok (.ireturn, 1) := by decide +kernel
theorem b_c10_played_7_1 : bdec cX10_played 7 [.iconst (-1)] = true := by decide +kernel
theorem d_c10_played_8 : decode cX10_played 8 = .ok (.ireturn, 1) := by decide +kernel
def f10_played_L57 (a0 : Nat) (b10 : Nat) (w : Int32 × HM) : Option ((Int32 × HM) ⊕ ((Int32 × HM) ⊕ (HM))) := match w with
  | (x57_3, s57) => ocl s57 b10 8 (obd (f8_size s57 b10) (fun v20 => if v20 ≤ (x57_3 + (Int32.ofInt 1)) then (some (.inr (.inr s57))) else (ocl s57 b10 8 (obd (f8_at s57 b10 x57_3) (fun v23 => ocl s57 b10 8 (obd (f8_at s57 b10 (x57_3 + (Int32.ofInt 1))) (fun v25 => obd (hfld s57 [10] 1 a0) (fun v26 => orf v26 (fun b27 => ocl s57 b27 2 (obd (f2_hasBoth s57 b27 v23 v25) (fun v29 => if v29 = 0 then (some (.inr (.inl ((Int8.ofInt (-13)).toInt32, s57)))) else (obd (hfld s57 [10] 7 a0) (fun v31 => orf v31 (fun b32 => obd (hald s57 b32 v23) (fun v33 => obd (hast s57 b32 v23 (v33 ||| ((Int32.ofInt 1) <<< (v25 &&& 31)))) (fun s34 => some (.inl (x57_3 + Int32.ofInt 2, s34))))))))))))))))))
def f10_played (s0 : HM) (a0 : Nat) (p1 : Int32) : Option (Int32 × HM) := obd (f10_isShelf p1) (fun v2 => if v2 = 0 then (some (Int32.ofInt (-1), s0)) else (obd (hfld s0 [10] 1 a0) (fun v4 => orf v4 (fun b5 => obd (hfi s0 [2] 2 b5) (fun v6 => if v6 ≤ (Int32.ofInt 5) then (ocl s0 a0 10 (obd (f10_bytesOn s0 a0 p1) (fun v9 => onl v9 (ocl s0 a0 10 (obd (f10_whyNotOn s0 a0 p1) (fun v12 => some (v12, s0)))) (fun b10 => ocl s0 b10 8 (obd (f8_size s0 b10) (fun v14 => onz (Int32.ofInt 2) (if (v14 - v14 / (Int32.ofInt 2) * (Int32.ofInt 2)) = 0 then (ocl s0 a0 10 (obd (f10_clearTold s0 a0) (fun s17 => obd (iter (f10_played_L57 a0 b10) FU (Int32.ofInt 0, s17)) (fun o18 => osm o18 (fun o18 => some o18) (fun o18 => match o18 with | t57 => obd (hfld t57 [10] 2 a0) (fun v35 => obd (hfld t57 [10] 1 a0) (fun v36 => orf v36 (fun b37 => orf v35 (fun b38 => ocl t57 b38 2 (obd (f2_become t57 b38 b37) (fun s40 => ocl s40 a0 10 (obd (f10_lawfulWaysAsTold s40 a0) (fun e41 => match e41 with | (v43, s42) => some (v43, s42)))))))))))))) else (some ((Int8.ofInt (-13)).toInt32, s0))))))))) else (some ((Int8.ofInt (-3)).toInt32, s0)))))))
set_option maxRecDepth 100000 in
set_option maxHeartbeats 4000000 in
theorem c10_played (l : Launch) (κ : KP) (A : Nat → Prop) (s0 : HM) (a0 : Nat) (p1 : Int32) {res : Int32 × HM} (hF : f10_played s0 a0 p1 = some res) : Met l yX10_played (Cond.code yX10_played cX10_played 6 (some .int) :: WT) (rmL 6 0 0) (PP κ A [.ref a0, .int p1] (HS κ A s0)) (QQ (some (.int res.1)) (HS κ A res.2) A) 0 0 A := by
  refine met_of (own := RX10) (by decide) rfl (Nat.le_of_ble_eq_true rfl) ?_
  intro Γ E hQ hL hR hA hent hini
  have hAA : ∀ q, A q → jA Γ q := fun q h => by rw [hA]; exact h
  have hroom : ∀ (d mL : Nat) {mc ms : Nat}, d < 6 → mL ≤ 21 → (rmL d mc ms).frames + 1 ≤ (jR Γ).frames ∧ 8 + (mL + 11) + (rmL d mc ms).locals ≤ (jR Γ).locals := fun d mL mc ms h1 h2 => by rw [hR]; exact rmL_le h1 h2
  show J Γ 6 (HS κ A s0) 0 0 0 [(0, .ref a0), (1, .int p1)] []
  unfold f10_played at hF
  refine j_blk (pc' := 1) (lv' := [(0, .ref a0), (1, .int p1)]) (st' := [.int p1]) E b_c10_played_0_1 rfl ?_
  replace hF := obd_at hF
  obtain ⟨v2, he1, hF⟩ := hF
  refine j_calls [.int p1] [] E w_RX10_211 (hroom 0 1 (by decide) (by decide)) hAA (c10_isShelf _ κ A (HS κ A s0) _  he1) (fun _ h => h) (fun _ _ _ h _ _ => h) rfl rfl (Nat.le_of_ble_eq_true rfl) d_c10_played_1 ⟨Nat.zero_le _, Nat.zero_le _⟩ ?_
  refine j_if_ne (tgt := 9) E d_c10_played_4 (by decide) (fun h3 => ?_) (fun h3 => ?_)
  · replace hF := g_f hF h3
    refine j_blk (pc' := 10) (lv' := [(0, .ref a0), (1, .int p1)]) (st' := [.ref a0]) E b_c10_played_9_1 rfl ?_
    replace hF := obd_at hF
    obtain ⟨v4, ev4, hF⟩ := hF
    refine j_getf E fg_RX10_23 d_c10_played_10 ev4 ?_
    replace hF := orf_at hF
    obtain ⟨b5, rfl, hF⟩ := hF
    replace hF := obd_at hF
    obtain ⟨v6, ev6, hF⟩ := hF
    refine j_getI E fg_RX10_111 d_c10_played_13 ev6 ?_
    refine j_blk (pc' := 17) (lv' := [(0, .ref a0), (1, .int p1)]) (st' := [.int (Int32.ofInt 5), .int v6]) E b_c10_played_16_1 rfl ?_
    refine j_icmp_le (tgt := 23) E d_c10_played_17 (by decide) (fun h7 => ?_) (fun h7 => ?_)
    · replace hF := g_t hF h7
      refine j_blk (pc' := 25) (lv' := [(0, .ref a0), (1, .int p1)]) (st' := [.int p1, .ref a0]) E b_c10_played_23_2 rfl ?_
      replace hF := ocl_at hF
      obtain ⟨hc, hF⟩ := hF
      replace hF := obd_at hF
      obtain ⟨v9, he8, hF⟩ := hF
      refine j_callv [.int p1] [] E w_RX10_51 (hroom 2 3 (by decide) (by decide)) hAA (c10_bytesOn _ κ A _ _ _  he8) (fun _ h => h) (fun _ _ _ h _ _ => h) (fun _ h => j_recv E h hc rfl) rfl rfl (Nat.le_of_ble_eq_true rfl) d_c10_played_25 ⟨Nat.zero_le _, Nat.zero_le _⟩ ?_
      replace hF := onl_at hF
      rcases hF with ⟨rfl, hF⟩ | ⟨b10, rfl, hF⟩
      · skip
        refine j_blk (pc' := 30) (lv' := [(2, .null), (0, .ref a0), (1, .int p1)]) (st' := [.null]) E b_c10_played_28_2 rfl ?_
        refine j_nonnull_n E d_c10_played_30 ?_
        refine j_blk (pc' := 35) (lv' := [(2, .null), (0, .ref a0), (1, .int p1)]) (st' := [.int p1, .ref a0]) E b_c10_played_33_2 rfl ?_
        replace hF := ocl_at hF
        obtain ⟨hc, hF⟩ := hF
        replace hF := obd_at hF
        obtain ⟨v12, he11, hF⟩ := hF
        refine j_callv [.int p1] [] E w_RX10_55 (hroom 3 2 (by decide) (by decide)) hAA (c10_whyNotOn _ κ A _ _ _  he11) (fun _ h => h) (fun _ _ _ h _ _ => h) (fun _ h => j_recv E h hc rfl) rfl rfl (Nat.le_of_ble_eq_true rfl) d_c10_played_35 ⟨Nat.zero_le _, Nat.zero_le _⟩ ?_
        have e : res = (v12, s0) := g_inj hF
        subst e
        exact j_iret E hQ d_c10_played_38 (fun _ h => h)
      · skip
        refine j_blk (pc' := 30) (lv' := [(2, .ref b10), (0, .ref a0), (1, .int p1)]) (st' := [.ref b10]) E b_c10_played_28_2 rfl ?_
        refine j_nonnull_y (tgt := 39) E d_c10_played_30 (by decide) ?_
        refine j_blk (pc' := 40) (lv' := [(2, .ref b10), (0, .ref a0), (1, .int p1)]) (st' := [.ref b10]) E b_c10_played_39_1 rfl ?_
        replace hF := ocl_at hF
        obtain ⟨hc, hF⟩ := hF
        replace hF := obd_at hF
        obtain ⟨v14, he13, hF⟩ := hF
        refine j_callv [] [] E w_RX10_67 (hroom 0 1 (by decide) (by decide)) hAA (c8_size _ κ A _ _  he13) (fun _ h => h) (fun _ _ _ h _ _ => h) (fun _ h => j_recv E h hc rfl) rfl rfl (Nat.le_of_ble_eq_true rfl) d_c10_played_40 ⟨Nat.zero_le _, Nat.zero_le _⟩ ?_
        refine j_blk (pc' := 44) (lv' := [(2, .ref b10), (0, .ref a0), (1, .int p1)]) (st' := [.int (Int32.ofInt 2), .int v14]) E b_c10_played_43_1 rfl ?_
        replace hF := onz_at hF
        obtain ⟨h0, hF⟩ := hF
        refine j_irem E d_c10_played_44 h0 ?_
        refine j_if_eq (tgt := 51) E d_c10_played_45 (by decide) (fun h15 => ?_) (fun h15 => ?_)
        · replace hF := g_t hF h15
          refine j_blk (pc' := 52) (lv' := [(2, .ref b10), (0, .ref a0), (1, .int p1)]) (st' := [.ref a0]) E b_c10_played_51_1 rfl ?_
          replace hF := ocl_at hF
          obtain ⟨hc, hF⟩ := hF
          replace hF := obd_at hF
          obtain ⟨s17, he16, hF⟩ := hF
          refine j_callv [] [] E w_RX10_193 (hroom 0 2 (by decide) (by decide)) hAA (c10_clearTold _ κ A _ _  he16) (fun _ h => h) (fun _ _ _ h _ _ => h) (fun _ h => j_recv E h hc rfl) rfl rfl (Nat.le_of_ble_eq_true rfl) d_c10_played_52 ⟨Nat.zero_le _, Nat.zero_le _⟩ ?_
          refine j_blk (pc' := 57) (lv' := [(3, .int (Int32.ofInt 0)), (2, .ref b10), (0, .ref a0), (1, .int p1)]) (st' := []) E b_c10_played_55_2 rfl ?_
          refine j_lv [2, 1, 0] rfl ?_
          replace hF := obd_at hF
          obtain ⟨o18, ho18, hF⟩ := hF
          have lpo18 : ∀ (fu : Nat) (w : Int32 × HM) (o : (Int32 × HM) ⊕ (HM)), iter (f10_played_L57 a0 b10) fu w = some o → (fun (o : (Int32 × HM) ⊕ (HM)) => match o with | .inl r => r = res | .inr o => J Γ 6 (HS κ A o) 0 0 120 [(0, .ref a0)] []) o → (fun (w : Int32 × HM) => J Γ 6 (HS κ A w.2) 0 0 57 [(0, .ref a0), (2, .ref b10), (3, .int w.1)] []) w := by
            refine j_iter (P := fun (w : Int32 × HM) => J Γ 6 (HS κ A w.2) 0 0 57 [(0, .ref a0), (2, .ref b10), (3, .int w.1)] []) (G := fun (o : (Int32 × HM) ⊕ (HM)) => match o with | .inl r => r = res | .inr o => J Γ 6 (HS κ A o) 0 0 120 [(0, .ref a0)] []) ?_
            rintro ⟨x57_3, s57⟩ q hF hI hO
            show J Γ 6 (HS κ A s57) 0 0 57 [(0, .ref a0), (2, .ref b10), (3, .int x57_3)] []
            unfold f10_played_L57 at hF
            refine j_blk (pc' := 61) (lv' := [(0, .ref a0), (2, .ref b10), (3, .int x57_3)]) (st' := [.ref b10, .int (x57_3 + (Int32.ofInt 1))]) E b_c10_played_57_4 rfl ?_
            replace hF := ocl_at hF
            obtain ⟨hc, hF⟩ := hF
            replace hF := obd_at hF
            obtain ⟨v20, he19, hF⟩ := hF
            refine j_callv [] [.int (x57_3 + (Int32.ofInt 1))] E w_RX10_67 (hroom 0 1 (by decide) (by decide)) hAA (c8_size _ κ A _ _  he19) (fun _ h => h) (fun _ _ _ h _ _ => h) (fun _ h => j_recv E h hc rfl) rfl rfl (Nat.le_of_ble_eq_true rfl) d_c10_played_61 ⟨Nat.zero_le _, Nat.zero_le _⟩ ?_
            refine j_icmp_ge (tgt := 120) E d_c10_played_64 (by decide) (fun h21 => ?_) (fun h21 => ?_)
            · replace hF := g_t hF h21
              refine j_lv [0] rfl ?_
              exact hO _ (g_inj hF)
            · replace hF := g_f hF h21
              refine j_blk (pc' := 69) (lv' := [(0, .ref a0), (2, .ref b10), (3, .int x57_3)]) (st' := [.int x57_3, .ref b10]) E b_c10_played_67_2 rfl ?_
              replace hF := ocl_at hF
              obtain ⟨hc, hF⟩ := hF
              replace hF := obd_at hF
              obtain ⟨v23, he22, hF⟩ := hF
              refine j_callv [.int x57_3] [] E w_RX10_71 (hroom 1 2 (by decide) (by decide)) hAA (c8_at _ κ A _ _ _  he22) (fun _ h => h) (fun _ _ _ h _ _ => h) (fun _ h => j_recv E h hc rfl) rfl rfl (Nat.le_of_ble_eq_true rfl) d_c10_played_69 ⟨Nat.zero_le _, Nat.zero_le _⟩ ?_
              refine j_blk (pc' := 78) (lv' := [(4, .int v23), (0, .ref a0), (2, .ref b10), (3, .int x57_3)]) (st' := [.int (x57_3 + (Int32.ofInt 1)), .ref b10]) E b_c10_played_72_5 rfl ?_
              replace hF := ocl_at hF
              obtain ⟨hc, hF⟩ := hF
              replace hF := obd_at hF
              obtain ⟨v25, he24, hF⟩ := hF
              refine j_callv [.int (x57_3 + (Int32.ofInt 1))] [] E w_RX10_71 (hroom 1 2 (by decide) (by decide)) hAA (c8_at _ κ A _ _ _  he24) (fun _ h => h) (fun _ _ _ h _ _ => h) (fun _ h => j_recv E h hc rfl) rfl rfl (Nat.le_of_ble_eq_true rfl) d_c10_played_78 ⟨Nat.zero_le _, Nat.zero_le _⟩ ?_
              refine j_blk (pc' := 84) (lv' := [(5, .int v25), (4, .int v23), (0, .ref a0), (2, .ref b10), (3, .int x57_3)]) (st' := [.ref a0]) E b_c10_played_81_2 rfl ?_
              replace hF := obd_at hF
              obtain ⟨v26, ev26, hF⟩ := hF
              refine j_getf E fg_RX10_23 d_c10_played_84 ev26 ?_
              refine j_blk (pc' := 91) (lv' := [(5, .int v25), (4, .int v23), (0, .ref a0), (2, .ref b10), (3, .int x57_3)]) (st' := [.int v25, .int v23, v26]) E b_c10_played_87_2 rfl ?_
              replace hF := orf_at hF
              obtain ⟨b27, rfl, hF⟩ := hF
              replace hF := ocl_at hF
              obtain ⟨hc, hF⟩ := hF
              replace hF := obd_at hF
              obtain ⟨v29, he28, hF⟩ := hF
              refine j_callv [.int v23, .int v25] [] E w_RX10_116 (hroom 1 3 (by decide) (by decide)) hAA (c2_hasBoth _ κ A _ _ _ _  he28) (fun _ h => h) (fun _ _ _ h _ _ => h) (fun _ h => j_recv E h hc rfl) rfl rfl (Nat.le_of_ble_eq_true rfl) d_c10_played_91 ⟨Nat.zero_le _, Nat.zero_le _⟩ ?_
              refine j_if_ne (tgt := 100) E d_c10_played_94 (by decide) (fun h30 => ?_) (fun h30 => ?_)
              · replace hF := g_f hF h30
                refine j_blk (pc' := 101) (lv' := [(5, .int v25), (4, .int v23), (0, .ref a0), (2, .ref b10), (3, .int x57_3)]) (st' := [.ref a0]) E b_c10_played_100_1 rfl ?_
                replace hF := obd_at hF
                obtain ⟨v31, ev31, hF⟩ := hF
                refine j_getf E fg_RX10_47 d_c10_played_101 ev31 ?_
                refine j_blk (pc' := 106) (lv' := [(5, .int v25), (4, .int v23), (0, .ref a0), (2, .ref b10), (3, .int x57_3)]) (st' := [.int v23, v31]) E b_c10_played_104_1 rfl ?_
                replace hF := orf_at hF
                obtain ⟨b32, rfl, hF⟩ := hF
                refine j_blk (pc' := 107) (lv' := [(5, .int v25), (4, .int v23), (0, .ref a0), (2, .ref b10), (3, .int x57_3)]) (st' := [.int v23, .ref b32, .int v23, .ref b32]) E b_c10_played_106_1 rfl ?_
                replace hF := obd_at hF
                obtain ⟨v33, ev33, hF⟩ := hF
                refine j_iald E d_c10_played_107 ev33 ?_
                refine j_blk (pc' := 113) (lv' := [(5, .int v25), (4, .int v23), (0, .ref a0), (2, .ref b10), (3, .int x57_3)]) (st' := [.int (v33 ||| ((Int32.ofInt 1) <<< (v25 &&& 31))), .int v23, .ref b32]) E b_c10_played_108_4 rfl ?_
                replace hF := obd_at hF
                obtain ⟨s34, es34, hF⟩ := hF
                refine j_iast E d_c10_played_113 es34 hAA ?_
                refine j_blk (pc' := 117) (lv' := [(3, .int (x57_3 + Int32.ofInt 2)), (5, .int v25), (4, .int v23), (0, .ref a0), (2, .ref b10)]) (st' := []) E b_c10_played_114_1 rfl ?_
                refine j_goto (tgt := 57) E d_c10_played_117 (by decide) ?_
                refine j_lv [3, 4, 0] rfl ?_
                exact hI _ (g_inj hF)
              · replace hF := g_t hF h30
                refine j_blk (pc' := 99) (lv' := [(5, .int v25), (4, .int v23), (0, .ref a0), (2, .ref b10), (3, .int x57_3)]) (st' := [.int ((Int8.ofInt (-13)).toInt32)]) E b_c10_played_97_1 rfl ?_
                have e : ((Int8.ofInt (-13)).toInt32, s57) = res := hO _ (g_inj hF)
                subst e
                exact j_iret E hQ d_c10_played_99 (fun _ h => h)
          refine lpo18 FU (Int32.ofInt 0, s17) o18 ho18 ?_
          rcases o18 with o18 | o18
          · exact (g_inj hF).symm
          · obtain ⟨t57, rfl⟩ : ∃ z, z = o18 := ⟨_, rfl⟩
            show J Γ 6 (HS κ A t57) 0 0 120 [(0, .ref a0)] []
            refine j_blk (pc' := 121) (lv' := [(0, .ref a0)]) (st' := [.ref a0]) E b_c10_played_120_1 rfl ?_
            replace hF := obd_at hF
            obtain ⟨v35, ev35, hF⟩ := hF
            refine j_getf E fg_RX10_27 d_c10_played_121 ev35 ?_
            refine j_blk (pc' := 125) (lv' := [(0, .ref a0)]) (st' := [.ref a0, v35]) E b_c10_played_124_1 rfl ?_
            replace hF := obd_at hF
            obtain ⟨v36, ev36, hF⟩ := hF
            refine j_getf E fg_RX10_23 d_c10_played_125 ev36 ?_
            replace hF := orf_at hF
            obtain ⟨b37, rfl, hF⟩ := hF
            replace hF := orf_at hF
            obtain ⟨b38, rfl, hF⟩ := hF
            replace hF := ocl_at hF
            obtain ⟨hc, hF⟩ := hF
            replace hF := obd_at hF
            obtain ⟨s40, he39, hF⟩ := hF
            refine j_callv [.ref b37] [] E w_RX10_63 (hroom 0 3 (by decide) (by decide)) hAA (c2_become _ κ A _ _ _  he39) (fun _ h => h) (fun _ _ _ h _ _ => h) (fun _ h => j_recv E h hc rfl) rfl rfl (Nat.le_of_ble_eq_true rfl) d_c10_played_128 ⟨Nat.zero_le _, Nat.zero_le _⟩ ?_
            refine j_blk (pc' := 132) (lv' := [(0, .ref a0)]) (st' := [.ref a0]) E b_c10_played_131_1 rfl ?_
            replace hF := ocl_at hF
            obtain ⟨hc, hF⟩ := hF
            replace hF := obd_at hF
            obtain ⟨⟨v43, s42⟩, he41, hF⟩ := hF
            refine j_callv [] [] E w_RX10_196 (hroom 5 3 (by decide) (by decide)) hAA (c10_lawfulWaysAsTold _ κ A _ _  he41) (fun _ h => h) (fun _ _ _ h _ _ => h) (fun _ h => j_recv E h hc rfl) rfl rfl (Nat.le_of_ble_eq_true rfl) d_c10_played_132 ⟨Nat.zero_le _, Nat.zero_le _⟩ ?_
            have e : res = (v43, s42) := g_inj hF
            subst e
            exact j_iret E hQ d_c10_played_135 (fun _ h => h)
        · replace hF := g_f hF h15
          refine j_blk (pc' := 50) (lv' := [(2, .ref b10), (0, .ref a0), (1, .int p1)]) (st' := [.int ((Int8.ofInt (-13)).toInt32)]) E b_c10_played_48_1 rfl ?_
          have e : res = ((Int8.ofInt (-13)).toInt32, s0) := g_inj hF
          subst e
          exact j_iret E hQ d_c10_played_50 (fun _ h => h)
    · replace hF := g_f hF h7
      refine j_blk (pc' := 22) (lv' := [(0, .ref a0), (1, .int p1)]) (st' := [.int ((Int8.ofInt (-3)).toInt32)]) E b_c10_played_20_1 rfl ?_
      have e : res = ((Int8.ofInt (-3)).toInt32, s0) := g_inj hF
      subst e
      exact j_iret E hQ d_c10_played_22 (fun _ h => h)
  · replace hF := g_t hF h3
    refine j_blk (pc' := 8) (lv' := [(0, .ref a0), (1, .int p1)]) (st' := [.int (Int32.ofInt (-1))]) E b_c10_played_7_1 rfl ?_
    have e : res = (Int32.ofInt (-1), s0) := g_inj hF
    subst e
    exact j_iret E hQ d_c10_played_8 (fun _ h => h)
