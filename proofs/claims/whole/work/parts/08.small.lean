/-! METHODS (by program): what each does, and that its bytecode does it -/
theorem b_c0_kind_0_1 : bdec cX0_kind 0 [.bipush 7] = true := by decide +kernel
theorem d_c0_kind_2 : decode cX0_kind 2 = .ok (.ireturn, 1) := by decide +kernel
def f0_kind (s0 : HM) (a0 : Nat) : Option (Int32) := some ((Int8.ofInt 7).toInt32)
set_option maxRecDepth 100000 in
set_option maxHeartbeats 4000000 in
theorem c0_kind (l : Launch) (κ : KP) (A : Nat → Prop) (s0 : HM) (a0 : Nat) {res : Int32} (hF : f0_kind s0 a0 = some res) : Met l yX0_kind (Cond.code yX0_kind cX0_kind 1 (some .int) :: WT) (rmL 0 0 0) (PP κ A [.ref a0] (HS κ A s0)) (QQ (some (.int res)) (HS κ A s0) A) 0 0 A := by
  refine met_of (own := RX0) (by decide) rfl (Nat.le_of_ble_eq_true rfl) ?_
  intro Γ E hQ hL hR hA hent hini
  have hAA : ∀ q, A q → jA Γ q := fun q h => by rw [hA]; exact h
  have hroom : ∀ (d mL : Nat) {mc ms : Nat}, d < 0 → mL ≤ 21 → (rmL d mc ms).frames + 1 ≤ (jR Γ).frames ∧ 8 + (mL + 11) + (rmL d mc ms).locals ≤ (jR Γ).locals := fun d mL mc ms h1 h2 => by rw [hR]; exact rmL_le h1 h2
  show J Γ 1 (HS κ A s0) 0 0 0 [(0, .ref a0)] []
  unfold f0_kind at hF
  refine j_blk (pc' := 2) (lv' := [(0, .ref a0)]) (st' := [.int ((Int8.ofInt 7).toInt32)]) E b_c0_kind_0_1 rfl ?_
  have e : res = (Int8.ofInt 7).toInt32 := g_inj hF
  subst e
  exact j_iret E hQ d_c0_kind_2 (fun _ h => h)
theorem b_c1_kind_0_1 : bdec cX1_kind 0 [.iconst 3] = true := by decide +kernel
theorem d_c1_kind_1 : decode cX1_kind 1 = .ok (.ireturn, 1) := by decide +kernel
def f1_kind (s0 : HM) (a0 : Nat) : Option (Int32) := some (Int32.ofInt 3)
set_option maxRecDepth 100000 in
set_option maxHeartbeats 4000000 in
theorem c1_kind (l : Launch) (κ : KP) (A : Nat → Prop) (s0 : HM) (a0 : Nat) {res : Int32} (hF : f1_kind s0 a0 = some res) : Met l yX1_kind (Cond.code yX1_kind cX1_kind 1 (some .int) :: WT) (rmL 0 0 0) (PP κ A [.ref a0] (HS κ A s0)) (QQ (some (.int res)) (HS κ A s0) A) 0 0 A := by
  refine met_of (own := RX1) (by decide) rfl (Nat.le_of_ble_eq_true rfl) ?_
  intro Γ E hQ hL hR hA hent hini
  have hAA : ∀ q, A q → jA Γ q := fun q h => by rw [hA]; exact h
  have hroom : ∀ (d mL : Nat) {mc ms : Nat}, d < 0 → mL ≤ 21 → (rmL d mc ms).frames + 1 ≤ (jR Γ).frames ∧ 8 + (mL + 11) + (rmL d mc ms).locals ≤ (jR Γ).locals := fun d mL mc ms h1 h2 => by rw [hR]; exact rmL_le h1 h2
  show J Γ 1 (HS κ A s0) 0 0 0 [(0, .ref a0)] []
  unfold f1_kind at hF
  refine j_blk (pc' := 1) (lv' := [(0, .ref a0)]) (st' := [.int (Int32.ofInt 3)]) E b_c1_kind_0_1 rfl ?_
  have e : res = Int32.ofInt 3 := g_inj hF
  subst e
  exact j_iret E hQ d_c1_kind_1 (fun _ h => h)
theorem b_c3_kind_0_1 : bdec cX3_kind 0 [.iconst 5] = true := by decide +kernel
theorem d_c3_kind_1 : decode cX3_kind 1 = .ok (.ireturn, 1) := by decide +kernel
def f3_kind (s0 : HM) (a0 : Nat) : Option (Int32) := some (Int32.ofInt 5)
set_option maxRecDepth 100000 in
set_option maxHeartbeats 4000000 in
theorem c3_kind (l : Launch) (κ : KP) (A : Nat → Prop) (s0 : HM) (a0 : Nat) {res : Int32} (hF : f3_kind s0 a0 = some res) : Met l yX3_kind (Cond.code yX3_kind cX3_kind 1 (some .int) :: WT) (rmL 0 0 0) (PP κ A [.ref a0] (HS κ A s0)) (QQ (some (.int res)) (HS κ A s0) A) 0 0 A := by
  refine met_of (own := RX3) (by decide) rfl (Nat.le_of_ble_eq_true rfl) ?_
  intro Γ E hQ hL hR hA hent hini
  have hAA : ∀ q, A q → jA Γ q := fun q h => by rw [hA]; exact h
  have hroom : ∀ (d mL : Nat) {mc ms : Nat}, d < 0 → mL ≤ 21 → (rmL d mc ms).frames + 1 ≤ (jR Γ).frames ∧ 8 + (mL + 11) + (rmL d mc ms).locals ≤ (jR Γ).locals := fun d mL mc ms h1 h2 => by rw [hR]; exact rmL_le h1 h2
  show J Γ 1 (HS κ A s0) 0 0 0 [(0, .ref a0)] []
  unfold f3_kind at hF
  refine j_blk (pc' := 1) (lv' := [(0, .ref a0)]) (st' := [.int (Int32.ofInt 5)]) E b_c3_kind_0_1 rfl ?_
  have e : res = Int32.ofInt 5 := g_inj hF
  subst e
  exact j_iret E hQ d_c3_kind_1 (fun _ h => h)
theorem b_c3_skill_0_1 : bdec cX3_skill 0 [.iconst 1] = true := by decide +kernel
theorem d_c3_skill_1 : decode cX3_skill 1 = .ok (.ireturn, 1) := by decide +kernel
def f3_skill (s0 : HM) (a0 : Nat) : Option (Int32) := some (Int32.ofInt 1)
set_option maxRecDepth 100000 in
set_option maxHeartbeats 4000000 in
theorem c3_skill (l : Launch) (κ : KP) (A : Nat → Prop) (s0 : HM) (a0 : Nat) {res : Int32} (hF : f3_skill s0 a0 = some res) : Met l yX3_skill (Cond.code yX3_skill cX3_skill 1 (some .int) :: WT) (rmL 0 0 0) (PP κ A [.ref a0] (HS κ A s0)) (QQ (some (.int res)) (HS κ A s0) A) 0 0 A := by
  refine met_of (own := RX3) (by decide) rfl (Nat.le_of_ble_eq_true rfl) ?_
  intro Γ E hQ hL hR hA hent hini
  have hAA : ∀ q, A q → jA Γ q := fun q h => by rw [hA]; exact h
  have hroom : ∀ (d mL : Nat) {mc ms : Nat}, d < 0 → mL ≤ 21 → (rmL d mc ms).frames + 1 ≤ (jR Γ).frames ∧ 8 + (mL + 11) + (rmL d mc ms).locals ≤ (jR Γ).locals := fun d mL mc ms h1 h2 => by rw [hR]; exact rmL_le h1 h2
  show J Γ 1 (HS κ A s0) 0 0 0 [(0, .ref a0)] []
  unfold f3_skill at hF
  refine j_blk (pc' := 1) (lv' := [(0, .ref a0)]) (st' := [.int (Int32.ofInt 1)]) E b_c3_skill_0_1 rfl ?_
  have e : res = Int32.ofInt 1 := g_inj hF
  subst e
  exact j_iret E hQ d_c3_skill_1 (fun _ h => h)
theorem b_c3_countsWith_0_2 : bdec cX3_countsWith 0 [.iload_n 1, .aload_n 0] = true := by decide +kernel
theorem d_c3_countsWith_2 : decode cX3_countsWith 2 = .ok (.getfield 7, 3) := by decide +kernel
theorem d_c3_countsWith_5 : decode cX3_countsWith 5 = .ok (.if_icmp .lt 7, 3) := by decide +kernel
theorem b_c3_countsWith_12_1 : bdec cX3_countsWith 12 [.iconst 0] = true := by decide +kernel
theorem d_c3_countsWith_13 : decode cX3_countsWith 13 = .ok (.ireturn, 1) := by decide +kernel
theorem b_c3_countsWith_8_1 : bdec cX3_countsWith 8 [.iconst 1] = true := by decide +kernel
theorem d_c3_countsWith_9 : decode cX3_countsWith 9 = .ok (.goto 4, 3) := by decide +kernel
def f3_countsWith (s0 : HM) (a0 : Nat) (p1 : Int32) : Option (Int32) := obd (hfi s0 sP 0 a0) (fun v1 => if p1 < v1 then (some (Int32.ofInt 0)) else (some (Int32.ofInt 1)))
set_option maxRecDepth 100000 in
set_option maxHeartbeats 4000000 in
theorem c3_countsWith (l : Launch) (κ : KP) (A : Nat → Prop) (s0 : HM) (a0 : Nat) (p1 : Int32) {res : Int32} (hF : f3_countsWith s0 a0 p1 = some res) : Met l yX3_countsWith (Cond.code yX3_countsWith cX3_countsWith 2 (some .boolean) :: WT) (rmL 0 0 0) (PP κ A [.ref a0, .int p1] (HS κ A s0)) (QQ (some (.int res)) (HS κ A s0) A) 0 0 A := by
  refine met_of (own := RX3) (by decide) rfl (Nat.le_of_ble_eq_true rfl) ?_
  intro Γ E hQ hL hR hA hent hini
  have hAA : ∀ q, A q → jA Γ q := fun q h => by rw [hA]; exact h
  have hroom : ∀ (d mL : Nat) {mc ms : Nat}, d < 0 → mL ≤ 21 → (rmL d mc ms).frames + 1 ≤ (jR Γ).frames ∧ 8 + (mL + 11) + (rmL d mc ms).locals ≤ (jR Γ).locals := fun d mL mc ms h1 h2 => by rw [hR]; exact rmL_le h1 h2
  show J Γ 2 (HS κ A s0) 0 0 0 [(0, .ref a0), (1, .int p1)] []
  unfold f3_countsWith at hF
  refine j_blk (pc' := 2) (lv' := [(0, .ref a0), (1, .int p1)]) (st' := [.ref a0, .int p1]) E b_c3_countsWith_0_2 rfl ?_
  replace hF := obd_at hF
  obtain ⟨v1, ev1, hF⟩ := hF
  refine j_getI E fg_RX3_7 d_c3_countsWith_2 ev1 ?_
  refine j_icmp_lt (tgt := 12) E d_c3_countsWith_5 (by decide) (fun h2 => ?_) (fun h2 => ?_)
  · replace hF := g_t hF h2
    refine j_blk (pc' := 13) (lv' := [(0, .ref a0), (1, .int p1)]) (st' := [.int (Int32.ofInt 0)]) E b_c3_countsWith_12_1 rfl ?_
    have e : res = Int32.ofInt 0 := g_inj hF
    subst e
    exact j_zret E hQ nb_0 d_c3_countsWith_13 (fun _ h => h)
  · replace hF := g_f hF h2
    refine j_blk (pc' := 9) (lv' := [(0, .ref a0), (1, .int p1)]) (st' := [.int (Int32.ofInt 1)]) E b_c3_countsWith_8_1 rfl ?_
    refine j_goto (tgt := 13) E d_c3_countsWith_9 (by decide) ?_
    have e : res = Int32.ofInt 1 := g_inj hF
    subst e
    exact j_zret E hQ nb_1 d_c3_countsWith_13 (fun _ h => h)
theorem b_c4_kind_0_1 : bdec cX4_kind 0 [.iconst 1] = true := by decide +kernel
theorem d_c4_kind_1 : decode cX4_kind 1 = .ok (.ireturn, 1) := by decide +kernel
def f4_kind (s0 : HM) (a0 : Nat) : Option (Int32) := some (Int32.ofInt 1)
set_option maxRecDepth 100000 in
set_option maxHeartbeats 4000000 in
theorem c4_kind (l : Launch) (κ : KP) (A : Nat → Prop) (s0 : HM) (a0 : Nat) {res : Int32} (hF : f4_kind s0 a0 = some res) : Met l yX4_kind (Cond.code yX4_kind cX4_kind 1 (some .int) :: WT) (rmL 0 0 0) (PP κ A [.ref a0] (HS κ A s0)) (QQ (some (.int res)) (HS κ A s0) A) 0 0 A := by
  refine met_of (own := RX4) (by decide) rfl (Nat.le_of_ble_eq_true rfl) ?_
  intro Γ E hQ hL hR hA hent hini
  have hAA : ∀ q, A q → jA Γ q := fun q h => by rw [hA]; exact h
  have hroom : ∀ (d mL : Nat) {mc ms : Nat}, d < 0 → mL ≤ 21 → (rmL d mc ms).frames + 1 ≤ (jR Γ).frames ∧ 8 + (mL + 11) + (rmL d mc ms).locals ≤ (jR Γ).locals := fun d mL mc ms h1 h2 => by rw [hR]; exact rmL_le h1 h2
  show J Γ 1 (HS κ A s0) 0 0 0 [(0, .ref a0)] []
  unfold f4_kind at hF
  refine j_blk (pc' := 1) (lv' := [(0, .ref a0)]) (st' := [.int (Int32.ofInt 1)]) E b_c4_kind_0_1 rfl ?_
  have e : res = Int32.ofInt 1 := g_inj hF
  subst e
  exact j_iret E hQ d_c4_kind_1 (fun _ h => h)
theorem b_c4_countsWith_0_2 : bdec cX4_countsWith 0 [.iload_n 1, .aload_n 0] = true := by decide +kernel
theorem d_c4_countsWith_2 : decode cX4_countsWith 2 = .ok (.getfield 11, 3) := by decide +kernel
theorem d_c4_countsWith_5 : decode cX4_countsWith 5 = .ok (.if_icmp .gt 7, 3) := by decide +kernel
theorem b_c4_countsWith_12_1 : bdec cX4_countsWith 12 [.iconst 0] = true := by decide +kernel
theorem d_c4_countsWith_13 : decode cX4_countsWith 13 = .ok (.ireturn, 1) := by decide +kernel
theorem b_c4_countsWith_8_1 : bdec cX4_countsWith 8 [.iconst 1] = true := by decide +kernel
theorem d_c4_countsWith_9 : decode cX4_countsWith 9 = .ok (.goto 4, 3) := by decide +kernel
def f4_countsWith (s0 : HM) (a0 : Nat) (p1 : Int32) : Option (Int32) := obd (hfi s0 sP 0 a0) (fun v1 => if v1 < p1 then (some (Int32.ofInt 0)) else (some (Int32.ofInt 1)))
set_option maxRecDepth 100000 in
set_option maxHeartbeats 4000000 in
theorem c4_countsWith (l : Launch) (κ : KP) (A : Nat → Prop) (s0 : HM) (a0 : Nat) (p1 : Int32) {res : Int32} (hF : f4_countsWith s0 a0 p1 = some res) : Met l yX4_countsWith (Cond.code yX4_countsWith cX4_countsWith 2 (some .boolean) :: WT) (rmL 0 0 0) (PP κ A [.ref a0, .int p1] (HS κ A s0)) (QQ (some (.int res)) (HS κ A s0) A) 0 0 A := by
  refine met_of (own := RX4) (by decide) rfl (Nat.le_of_ble_eq_true rfl) ?_
  intro Γ E hQ hL hR hA hent hini
  have hAA : ∀ q, A q → jA Γ q := fun q h => by rw [hA]; exact h
  have hroom : ∀ (d mL : Nat) {mc ms : Nat}, d < 0 → mL ≤ 21 → (rmL d mc ms).frames + 1 ≤ (jR Γ).frames ∧ 8 + (mL + 11) + (rmL d mc ms).locals ≤ (jR Γ).locals := fun d mL mc ms h1 h2 => by rw [hR]; exact rmL_le h1 h2
  show J Γ 2 (HS κ A s0) 0 0 0 [(0, .ref a0), (1, .int p1)] []
  unfold f4_countsWith at hF
  refine j_blk (pc' := 2) (lv' := [(0, .ref a0), (1, .int p1)]) (st' := [.ref a0, .int p1]) E b_c4_countsWith_0_2 rfl ?_
  replace hF := obd_at hF
  obtain ⟨v1, ev1, hF⟩ := hF
  refine j_getI E fg_RX4_11 d_c4_countsWith_2 ev1 ?_
  refine j_icmp_gt (tgt := 12) E d_c4_countsWith_5 (by decide) (fun h2 => ?_) (fun h2 => ?_)
  · replace hF := g_t hF h2
    refine j_blk (pc' := 13) (lv' := [(0, .ref a0), (1, .int p1)]) (st' := [.int (Int32.ofInt 0)]) E b_c4_countsWith_12_1 rfl ?_
    have e : res = Int32.ofInt 0 := g_inj hF
    subst e
    exact j_zret E hQ nb_0 d_c4_countsWith_13 (fun _ h => h)
  · replace hF := g_f hF h2
    refine j_blk (pc' := 9) (lv' := [(0, .ref a0), (1, .int p1)]) (st' := [.int (Int32.ofInt 1)]) E b_c4_countsWith_8_1 rfl ?_
    refine j_goto (tgt := 13) E d_c4_countsWith_9 (by decide) ?_
    have e : res = Int32.ofInt 1 := g_inj hF
    subst e
    exact j_zret E hQ nb_1 d_c4_countsWith_13 (fun _ h => h)
theorem b_c5_kind_0_1 : bdec cX5_kind 0 [.iconst 2] = true := by decide +kernel
theorem d_c5_kind_1 : decode cX5_kind 1 = .ok (.ireturn, 1) := by decide +kernel
def f5_kind (s0 : HM) (a0 : Nat) : Option (Int32) := some (Int32.ofInt 2)
set_option maxRecDepth 100000 in
set_option maxHeartbeats 4000000 in
theorem c5_kind (l : Launch) (κ : KP) (A : Nat → Prop) (s0 : HM) (a0 : Nat) {res : Int32} (hF : f5_kind s0 a0 = some res) : Met l yX5_kind (Cond.code yX5_kind cX5_kind 1 (some .int) :: WT) (rmL 0 0 0) (PP κ A [.ref a0] (HS κ A s0)) (QQ (some (.int res)) (HS κ A s0) A) 0 0 A := by
  refine met_of (own := RX5) (by decide) rfl (Nat.le_of_ble_eq_true rfl) ?_
  intro Γ E hQ hL hR hA hent hini
  have hAA : ∀ q, A q → jA Γ q := fun q h => by rw [hA]; exact h
  have hroom : ∀ (d mL : Nat) {mc ms : Nat}, d < 0 → mL ≤ 21 → (rmL d mc ms).frames + 1 ≤ (jR Γ).frames ∧ 8 + (mL + 11) + (rmL d mc ms).locals ≤ (jR Γ).locals := fun d mL mc ms h1 h2 => by rw [hR]; exact rmL_le h1 h2
  show J Γ 1 (HS κ A s0) 0 0 0 [(0, .ref a0)] []
  unfold f5_kind at hF
  refine j_blk (pc' := 1) (lv' := [(0, .ref a0)]) (st' := [.int (Int32.ofInt 2)]) E b_c5_kind_0_1 rfl ?_
  have e : res = Int32.ofInt 2 := g_inj hF
  subst e
  exact j_iret E hQ d_c5_kind_1 (fun _ h => h)
theorem b_c6_kind_0_1 : bdec cX6_kind 0 [.iconst 0] = true := by decide +kernel
theorem d_c6_kind_1 : decode cX6_kind 1 = .ok (.ireturn, 1) := by decide +kernel
def f6_kind (s0 : HM) (a0 : Nat) : Option (Int32) := some (Int32.ofInt 0)
set_option maxRecDepth 100000 in
set_option maxHeartbeats 4000000 in
theorem c6_kind (l : Launch) (κ : KP) (A : Nat → Prop) (s0 : HM) (a0 : Nat) {res : Int32} (hF : f6_kind s0 a0 = some res) : Met l yX6_kind (Cond.code yX6_kind cX6_kind 1 (some .int) :: WT) (rmL 0 0 0) (PP κ A [.ref a0] (HS κ A s0)) (QQ (some (.int res)) (HS κ A s0) A) 0 0 A := by
  refine met_of (own := RX6) (by decide) rfl (Nat.le_of_ble_eq_true rfl) ?_
  intro Γ E hQ hL hR hA hent hini
  have hAA : ∀ q, A q → jA Γ q := fun q h => by rw [hA]; exact h
  have hroom : ∀ (d mL : Nat) {mc ms : Nat}, d < 0 → mL ≤ 21 → (rmL d mc ms).frames + 1 ≤ (jR Γ).frames ∧ 8 + (mL + 11) + (rmL d mc ms).locals ≤ (jR Γ).locals := fun d mL mc ms h1 h2 => by rw [hR]; exact rmL_le h1 h2
  show J Γ 1 (HS κ A s0) 0 0 0 [(0, .ref a0)] []
  unfold f6_kind at hF
  refine j_blk (pc' := 1) (lv' := [(0, .ref a0)]) (st' := [.int (Int32.ofInt 0)]) E b_c6_kind_0_1 rfl ?_
  have e : res = Int32.ofInt 0 := g_inj hF
  subst e
  exact j_iret E hQ d_c6_kind_1 (fun _ h => h)
theorem b_c6_skill_0_1 : bdec cX6_skill 0 [.aload_n 0] = true := by decide +kernel
theorem d_c6_skill_1 : decode cX6_skill 1 = .ok (.getfield 7, 3) := by decide +kernel
theorem b_c6_skill_4_2 : bdec cX6_skill 4 [.iconst 1, .iadd] = true := by decide +kernel
theorem d_c6_skill_6 : decode cX6_skill 6 = .ok (.ireturn, 1) := by decide +kernel
def f6_skill (s0 : HM) (a0 : Nat) : Option (Int32) := obd (hfi s0 sP 0 a0) (fun v1 => some (v1 + (Int32.ofInt 1)))
set_option maxRecDepth 100000 in
set_option maxHeartbeats 4000000 in
theorem c6_skill (l : Launch) (κ : KP) (A : Nat → Prop) (s0 : HM) (a0 : Nat) {res : Int32} (hF : f6_skill s0 a0 = some res) : Met l yX6_skill (Cond.code yX6_skill cX6_skill 1 (some .int) :: WT) (rmL 0 0 0) (PP κ A [.ref a0] (HS κ A s0)) (QQ (some (.int res)) (HS κ A s0) A) 0 0 A := by
  refine met_of (own := RX6) (by decide) rfl (Nat.le_of_ble_eq_true rfl) ?_
  intro Γ E hQ hL hR hA hent hini
  have hAA : ∀ q, A q → jA Γ q := fun q h => by rw [hA]; exact h
  have hroom : ∀ (d mL : Nat) {mc ms : Nat}, d < 0 → mL ≤ 21 → (rmL d mc ms).frames + 1 ≤ (jR Γ).frames ∧ 8 + (mL + 11) + (rmL d mc ms).locals ≤ (jR Γ).locals := fun d mL mc ms h1 h2 => by rw [hR]; exact rmL_le h1 h2
  show J Γ 1 (HS κ A s0) 0 0 0 [(0, .ref a0)] []
  unfold f6_skill at hF
  refine j_blk (pc' := 1) (lv' := [(0, .ref a0)]) (st' := [.ref a0]) E b_c6_skill_0_1 rfl ?_
  replace hF := obd_at hF
  obtain ⟨v1, ev1, hF⟩ := hF
  refine j_getI E fg_RX6_7 d_c6_skill_1 ev1 ?_
  refine j_blk (pc' := 6) (lv' := [(0, .ref a0)]) (st' := [.int (v1 + (Int32.ofInt 1))]) E b_c6_skill_4_2 rfl ?_
  have e : res = v1 + (Int32.ofInt 1) := g_inj hF
  subst e
  exact j_iret E hQ d_c6_skill_6 (fun _ h => h)
theorem b_c6_countsWith_0_1 : bdec cX6_countsWith 0 [.iconst 1] = true := by decide +kernel
theorem d_c6_countsWith_1 : decode cX6_countsWith 1 = .ok (.ireturn, 1) := by decide +kernel
def f6_countsWith (s0 : HM) (a0 : Nat) (p1 : Int32) : Option (Int32) := some (Int32.ofInt 1)
set_option maxRecDepth 100000 in
set_option maxHeartbeats 4000000 in
theorem c6_countsWith (l : Launch) (κ : KP) (A : Nat → Prop) (s0 : HM) (a0 : Nat) (p1 : Int32) {res : Int32} (hF : f6_countsWith s0 a0 p1 = some res) : Met l yX6_countsWith (Cond.code yX6_countsWith cX6_countsWith 2 (some .boolean) :: WT) (rmL 0 0 0) (PP κ A [.ref a0, .int p1] (HS κ A s0)) (QQ (some (.int res)) (HS κ A s0) A) 0 0 A := by
  refine met_of (own := RX6) (by decide) rfl (Nat.le_of_ble_eq_true rfl) ?_
  intro Γ E hQ hL hR hA hent hini
  have hAA : ∀ q, A q → jA Γ q := fun q h => by rw [hA]; exact h
  have hroom : ∀ (d mL : Nat) {mc ms : Nat}, d < 0 → mL ≤ 21 → (rmL d mc ms).frames + 1 ≤ (jR Γ).frames ∧ 8 + (mL + 11) + (rmL d mc ms).locals ≤ (jR Γ).locals := fun d mL mc ms h1 h2 => by rw [hR]; exact rmL_le h1 h2
  show J Γ 2 (HS κ A s0) 0 0 0 [(0, .ref a0), (1, .int p1)] []
  unfold f6_countsWith at hF
  refine j_blk (pc' := 1) (lv' := [(0, .ref a0), (1, .int p1)]) (st' := [.int (Int32.ofInt 1)]) E b_c6_countsWith_0_1 rfl ?_
  have e : res = Int32.ofInt 1 := g_inj hF
  subst e
  exact j_zret E hQ nb_1 d_c6_countsWith_1 (fun _ h => h)
theorem b_c6_cost_0_1 : bdec cX6_cost 0 [.iconst 3] = true := by decide +kernel
theorem d_c6_cost_1 : decode cX6_cost 1 = .ok (.ireturn, 1) := by decide +kernel
def f6_cost (s0 : HM) (a0 : Nat) : Option (Int32) := some (Int32.ofInt 3)
set_option maxRecDepth 100000 in
set_option maxHeartbeats 4000000 in
theorem c6_cost (l : Launch) (κ : KP) (A : Nat → Prop) (s0 : HM) (a0 : Nat) {res : Int32} (hF : f6_cost s0 a0 = some res) : Met l yX6_cost (Cond.code yX6_cost cX6_cost 1 (some .int) :: WT) (rmL 0 0 0) (PP κ A [.ref a0] (HS κ A s0)) (QQ (some (.int res)) (HS κ A s0) A) 0 0 A := by
  refine met_of (own := RX6) (by decide) rfl (Nat.le_of_ble_eq_true rfl) ?_
  intro Γ E hQ hL hR hA hent hini
  have hAA : ∀ q, A q → jA Γ q := fun q h => by rw [hA]; exact h
  have hroom : ∀ (d mL : Nat) {mc ms : Nat}, d < 0 → mL ≤ 21 → (rmL d mc ms).frames + 1 ≤ (jR Γ).frames ∧ 8 + (mL + 11) + (rmL d mc ms).locals ≤ (jR Γ).locals := fun d mL mc ms h1 h2 => by rw [hR]; exact rmL_le h1 h2
  show J Γ 1 (HS κ A s0) 0 0 0 [(0, .ref a0)] []
  unfold f6_cost at hF
  refine j_blk (pc' := 1) (lv' := [(0, .ref a0)]) (st' := [.int (Int32.ofInt 3)]) E b_c6_cost_0_1 rfl ?_
  have e : res = Int32.ofInt 3 := g_inj hF
  subst e
  exact j_iret E hQ d_c6_cost_1 (fun _ h => h)
theorem b_c7_kind_0_1 : bdec cX7_kind 0 [.bipush 6] = true := by decide +kernel
theorem d_c7_kind_2 : decode cX7_kind 2 = .ok (.ireturn, 1) := by decide +kernel
def f7_kind (s0 : HM) (a0 : Nat) : Option (Int32) := some ((Int8.ofInt 6).toInt32)
set_option maxRecDepth 100000 in
set_option maxHeartbeats 4000000 in
theorem c7_kind (l : Launch) (κ : KP) (A : Nat → Prop) (s0 : HM) (a0 : Nat) {res : Int32} (hF : f7_kind s0 a0 = some res) : Met l yX7_kind (Cond.code yX7_kind cX7_kind 1 (some .int) :: WT) (rmL 0 0 0) (PP κ A [.ref a0] (HS κ A s0)) (QQ (some (.int res)) (HS κ A s0) A) 0 0 A := by
  refine met_of (own := RX7) (by decide) rfl (Nat.le_of_ble_eq_true rfl) ?_
  intro Γ E hQ hL hR hA hent hini
  have hAA : ∀ q, A q → jA Γ q := fun q h => by rw [hA]; exact h
  have hroom : ∀ (d mL : Nat) {mc ms : Nat}, d < 0 → mL ≤ 21 → (rmL d mc ms).frames + 1 ≤ (jR Γ).frames ∧ 8 + (mL + 11) + (rmL d mc ms).locals ≤ (jR Γ).locals := fun d mL mc ms h1 h2 => by rw [hR]; exact rmL_le h1 h2
  show J Γ 1 (HS κ A s0) 0 0 0 [(0, .ref a0)] []
  unfold f7_kind at hF
  refine j_blk (pc' := 2) (lv' := [(0, .ref a0)]) (st' := [.int ((Int8.ofInt 6).toInt32)]) E b_c7_kind_0_1 rfl ?_
  have e : res = (Int8.ofInt 6).toInt32 := g_inj hF
  subst e
  exact j_iret E hQ d_c7_kind_2 (fun _ h => h)
theorem b_c7_countsWith_0_1 : bdec cX7_countsWith 0 [.iconst 0] = true := by decide +kernel
theorem d_c7_countsWith_1 : decode cX7_countsWith 1 = .ok (.ireturn, 1) := by decide +kernel
def f7_countsWith (s0 : HM) (a0 : Nat) (p1 : Int32) : Option (Int32) := some (Int32.ofInt 0)
set_option maxRecDepth 100000 in
set_option maxHeartbeats 4000000 in
theorem c7_countsWith (l : Launch) (κ : KP) (A : Nat → Prop) (s0 : HM) (a0 : Nat) (p1 : Int32) {res : Int32} (hF : f7_countsWith s0 a0 p1 = some res) : Met l yX7_countsWith (Cond.code yX7_countsWith cX7_countsWith 2 (some .boolean) :: WT) (rmL 0 0 0) (PP κ A [.ref a0, .int p1] (HS κ A s0)) (QQ (some (.int res)) (HS κ A s0) A) 0 0 A := by
  refine met_of (own := RX7) (by decide) rfl (Nat.le_of_ble_eq_true rfl) ?_
  intro Γ E hQ hL hR hA hent hini
  have hAA : ∀ q, A q → jA Γ q := fun q h => by rw [hA]; exact h
  have hroom : ∀ (d mL : Nat) {mc ms : Nat}, d < 0 → mL ≤ 21 → (rmL d mc ms).frames + 1 ≤ (jR Γ).frames ∧ 8 + (mL + 11) + (rmL d mc ms).locals ≤ (jR Γ).locals := fun d mL mc ms h1 h2 => by rw [hR]; exact rmL_le h1 h2
  show J Γ 2 (HS κ A s0) 0 0 0 [(0, .ref a0), (1, .int p1)] []
  unfold f7_countsWith at hF
  refine j_blk (pc' := 1) (lv' := [(0, .ref a0), (1, .int p1)]) (st' := [.int (Int32.ofInt 0)]) E b_c7_countsWith_0_1 rfl ?_
  have e : res = Int32.ofInt 0 := g_inj hF
  subst e
  exact j_zret E hQ nb_0 d_c7_countsWith_1 (fun _ h => h)
theorem b_c8_size_0_1 : bdec cX8_size 0 [.aload_n 0] = true := by decide +kernel
theorem d_c8_size_1 : decode cX8_size 1 = .ok (.getfield 13, 3) := by decide +kernel
theorem d_c8_size_4 : decode cX8_size 4 = .ok (.arraylength, 1) := by decide +kernel
theorem d_c8_size_5 : decode cX8_size 5 = .ok (.ireturn, 1) := by decide +kernel
def f8_size (s0 : HM) (a0 : Nat) : Option (Int32) := obd (hfld s0 [8] 1 a0) (fun v1 => orf v1 (fun b2 => obd (hlen s0 b2) (fun v3 => some v3)))
set_option maxRecDepth 100000 in
set_option maxHeartbeats 4000000 in
theorem c8_size (l : Launch) (κ : KP) (A : Nat → Prop) (s0 : HM) (a0 : Nat) {res : Int32} (hF : f8_size s0 a0 = some res) : Met l yX8_size (Cond.code yX8_size cX8_size 1 (some .int) :: WT) (rmL 0 0 0) (PP κ A [.ref a0] (HS κ A s0)) (QQ (some (.int res)) (HS κ A s0) A) 0 0 A := by
  refine met_of (own := RX8) (by decide) rfl (Nat.le_of_ble_eq_true rfl) ?_
  intro Γ E hQ hL hR hA hent hini
  have hAA : ∀ q, A q → jA Γ q := fun q h => by rw [hA]; exact h
  have hroom : ∀ (d mL : Nat) {mc ms : Nat}, d < 0 → mL ≤ 21 → (rmL d mc ms).frames + 1 ≤ (jR Γ).frames ∧ 8 + (mL + 11) + (rmL d mc ms).locals ≤ (jR Γ).locals := fun d mL mc ms h1 h2 => by rw [hR]; exact rmL_le h1 h2
  show J Γ 1 (HS κ A s0) 0 0 0 [(0, .ref a0)] []
  unfold f8_size at hF
  refine j_blk (pc' := 1) (lv' := [(0, .ref a0)]) (st' := [.ref a0]) E b_c8_size_0_1 rfl ?_
  replace hF := obd_at hF
  obtain ⟨v1, ev1, hF⟩ := hF
  refine j_getf E fg_RX8_13 d_c8_size_1 ev1 ?_
  replace hF := orf_at hF
  obtain ⟨b2, rfl, hF⟩ := hF
  replace hF := obd_at hF
  obtain ⟨v3, ev3, hF⟩ := hF
  refine j_alen E d_c8_size_4 ev3 ?_
  have e : res = v3 := g_inj hF
  subst e
  exact j_iret E hQ d_c8_size_5 (fun _ h => h)
theorem b_c8_hasPlaces_0_1 : bdec cX8_hasPlaces 0 [.iload_n 1] = true := by decide +kernel
theorem d_c8_hasPlaces_1 : decode cX8_hasPlaces 1 = .ok (.ifCond .lt 31, 3) := by decide +kernel
theorem b_c8_hasPlaces_32_1 : bdec cX8_hasPlaces 32 [.iconst 0] = true := by decide +kernel
theorem d_c8_hasPlaces_33 : decode cX8_hasPlaces 33 = .ok (.ireturn, 1) := by decide +kernel
theorem b_c8_hasPlaces_4_1 : bdec cX8_hasPlaces 4 [.iload_n 2] = true := by decide +kernel
theorem d_c8_hasPlaces_5 : decode cX8_hasPlaces 5 = .ok (.ifCond .lt 27, 3) := by decide +kernel
theorem b_c8_hasPlaces_8_2 : bdec cX8_hasPlaces 8 [.iload_n 2, .aload_n 0] = true := by decide +kernel
theorem d_c8_hasPlaces_10 : decode cX8_hasPlaces 10 = .ok (.getfield 13, 3) := by decide +kernel
theorem d_c8_hasPlaces_13 : decode cX8_hasPlaces 13 = .ok (.arraylength, 1) := by decide +kernel
theorem d_c8_hasPlaces_14 : decode cX8_hasPlaces 14 = .ok (.if_icmp .gt 18, 3) := by decide +kernel
theorem b_c8_hasPlaces_17_2 : bdec cX8_hasPlaces 17 [.iload_n 1, .aload_n 0] = true := by decide +kernel
theorem d_c8_hasPlaces_19 : decode cX8_hasPlaces 19 = .ok (.getfield 13, 3) := by decide +kernel
theorem d_c8_hasPlaces_22 : decode cX8_hasPlaces 22 = .ok (.arraylength, 1) := by decide +kernel
theorem b_c8_hasPlaces_23_2 : bdec cX8_hasPlaces 23 [.iload_n 2, .isub] = true := by decide +kernel
theorem d_c8_hasPlaces_25 : decode cX8_hasPlaces 25 = .ok (.if_icmp .gt 7, 3) := by decide +kernel
theorem b_c8_hasPlaces_28_1 : bdec cX8_hasPlaces 28 [.iconst 1] = true := by decide +kernel
theorem d_c8_hasPlaces_29 : decode cX8_hasPlaces 29 = .ok (.goto 4, 3) := by decide +kernel
def f8_hasPlaces (s0 : HM) (a0 : Nat) (p1 : Int32) (p2 : Int32) : Option (Int32) := if p1 < 0 then (some (Int32.ofInt 0)) else (if p2 < 0 then (some (Int32.ofInt 0)) else (obd (hfld s0 [8] 1 a0) (fun v3 => orf v3 (fun b4 => obd (hlen s0 b4) (fun v5 => if v5 < p2 then (some (Int32.ofInt 0)) else (obd (hfld s0 [8] 1 a0) (fun v7 => orf v7 (fun b8 => obd (hlen s0 b8) (fun v9 => if (v9 - p2) < p1 then (some (Int32.ofInt 0)) else (some (Int32.ofInt 1)))))))))))
set_option maxRecDepth 100000 in
set_option maxHeartbeats 4000000 in
theorem c8_hasPlaces (l : Launch) (κ : KP) (A : Nat → Prop) (s0 : HM) (a0 : Nat) (p1 : Int32) (p2 : Int32) {res : Int32} (hF : f8_hasPlaces s0 a0 p1 p2 = some res) : Met l yX8_hasPlaces (Cond.code yX8_hasPlaces cX8_hasPlaces 3 (some .boolean) :: WT) (rmL 0 0 0) (PP κ A [.ref a0, .int p1, .int p2] (HS κ A s0)) (QQ (some (.int res)) (HS κ A s0) A) 0 0 A := by
  refine met_of (own := RX8) (by decide) rfl (Nat.le_of_ble_eq_true rfl) ?_
  intro Γ E hQ hL hR hA hent hini
  have hAA : ∀ q, A q → jA Γ q := fun q h => by rw [hA]; exact h
  have hroom : ∀ (d mL : Nat) {mc ms : Nat}, d < 0 → mL ≤ 21 → (rmL d mc ms).frames + 1 ≤ (jR Γ).frames ∧ 8 + (mL + 11) + (rmL d mc ms).locals ≤ (jR Γ).locals := fun d mL mc ms h1 h2 => by rw [hR]; exact rmL_le h1 h2
  show J Γ 3 (HS κ A s0) 0 0 0 [(0, .ref a0), (1, .int p1), (2, .int p2)] []
  unfold f8_hasPlaces at hF
  refine j_blk (pc' := 1) (lv' := [(0, .ref a0), (1, .int p1), (2, .int p2)]) (st' := [.int p1]) E b_c8_hasPlaces_0_1 rfl ?_
  refine j_if_lt (tgt := 32) E d_c8_hasPlaces_1 (by decide) (fun h1 => ?_) (fun h1 => ?_)
  · replace hF := g_t hF h1
    refine j_blk (pc' := 33) (lv' := [(0, .ref a0), (1, .int p1), (2, .int p2)]) (st' := [.int (Int32.ofInt 0)]) E b_c8_hasPlaces_32_1 rfl ?_
    have e : res = Int32.ofInt 0 := g_inj hF
    subst e
    exact j_zret E hQ nb_0 d_c8_hasPlaces_33 (fun _ h => h)
  · replace hF := g_f hF h1
    refine j_blk (pc' := 5) (lv' := [(0, .ref a0), (1, .int p1), (2, .int p2)]) (st' := [.int p2]) E b_c8_hasPlaces_4_1 rfl ?_
    refine j_if_lt (tgt := 32) E d_c8_hasPlaces_5 (by decide) (fun h2 => ?_) (fun h2 => ?_)
    · replace hF := g_t hF h2
      refine j_blk (pc' := 33) (lv' := [(0, .ref a0), (1, .int p1), (2, .int p2)]) (st' := [.int (Int32.ofInt 0)]) E b_c8_hasPlaces_32_1 rfl ?_
      have e : res = Int32.ofInt 0 := g_inj hF
      subst e
      exact j_zret E hQ nb_0 d_c8_hasPlaces_33 (fun _ h => h)
    · replace hF := g_f hF h2
      refine j_blk (pc' := 10) (lv' := [(0, .ref a0), (1, .int p1), (2, .int p2)]) (st' := [.ref a0, .int p2]) E b_c8_hasPlaces_8_2 rfl ?_
      replace hF := obd_at hF
      obtain ⟨v3, ev3, hF⟩ := hF
      refine j_getf E fg_RX8_13 d_c8_hasPlaces_10 ev3 ?_
      replace hF := orf_at hF
      obtain ⟨b4, rfl, hF⟩ := hF
      replace hF := obd_at hF
      obtain ⟨v5, ev5, hF⟩ := hF
      refine j_alen E d_c8_hasPlaces_13 ev5 ?_
      refine j_icmp_gt (tgt := 32) E d_c8_hasPlaces_14 (by decide) (fun h6 => ?_) (fun h6 => ?_)
      · replace hF := g_t hF h6
        refine j_blk (pc' := 33) (lv' := [(0, .ref a0), (1, .int p1), (2, .int p2)]) (st' := [.int (Int32.ofInt 0)]) E b_c8_hasPlaces_32_1 rfl ?_
        have e : res = Int32.ofInt 0 := g_inj hF
        subst e
        exact j_zret E hQ nb_0 d_c8_hasPlaces_33 (fun _ h => h)
      · replace hF := g_f hF h6
        refine j_blk (pc' := 19) (lv' := [(0, .ref a0), (1, .int p1), (2, .int p2)]) (st' := [.ref a0, .int p1]) E b_c8_hasPlaces_17_2 rfl ?_
        replace hF := obd_at hF
        obtain ⟨v7, ev7, hF⟩ := hF
        refine j_getf E fg_RX8_13 d_c8_hasPlaces_19 ev7 ?_
        replace hF := orf_at hF
        obtain ⟨b8, rfl, hF⟩ := hF
        replace hF := obd_at hF
        obtain ⟨v9, ev9, hF⟩ := hF
        refine j_alen E d_c8_hasPlaces_22 ev9 ?_
        refine j_blk (pc' := 25) (lv' := [(0, .ref a0), (1, .int p1), (2, .int p2)]) (st' := [.int (v9 - p2), .int p1]) E b_c8_hasPlaces_23_2 rfl ?_
        refine j_icmp_gt (tgt := 32) E d_c8_hasPlaces_25 (by decide) (fun h10 => ?_) (fun h10 => ?_)
        · replace hF := g_t hF h10
          refine j_blk (pc' := 33) (lv' := [(0, .ref a0), (1, .int p1), (2, .int p2)]) (st' := [.int (Int32.ofInt 0)]) E b_c8_hasPlaces_32_1 rfl ?_
          have e : res = Int32.ofInt 0 := g_inj hF
          subst e
          exact j_zret E hQ nb_0 d_c8_hasPlaces_33 (fun _ h => h)
        · replace hF := g_f hF h10
          refine j_blk (pc' := 29) (lv' := [(0, .ref a0), (1, .int p1), (2, .int p2)]) (st' := [.int (Int32.ofInt 1)]) E b_c8_hasPlaces_28_1 rfl ?_
          refine j_goto (tgt := 33) E d_c8_hasPlaces_29 (by decide) ?_
          have e : res = Int32.ofInt 1 := g_inj hF
          subst e
          exact j_zret E hQ nb_1 d_c8_hasPlaces_33 (fun _ h => h)
theorem b_c9_kind_0_1 : bdec cX9_kind 0 [.iconst 4] = true := by decide +kernel
theorem d_c9_kind_1 : decode cX9_kind 1 = .ok (.ireturn, 1) := by decide +kernel
def f9_kind (s0 : HM) (a0 : Nat) : Option (Int32) := some (Int32.ofInt 4)
set_option maxRecDepth 100000 in
set_option maxHeartbeats 4000000 in
theorem c9_kind (l : Launch) (κ : KP) (A : Nat → Prop) (s0 : HM) (a0 : Nat) {res : Int32} (hF : f9_kind s0 a0 = some res) : Met l yX9_kind (Cond.code yX9_kind cX9_kind 1 (some .int) :: WT) (rmL 0 0 0) (PP κ A [.ref a0] (HS κ A s0)) (QQ (some (.int res)) (HS κ A s0) A) 0 0 A := by
  refine met_of (own := RX9) (by decide) rfl (Nat.le_of_ble_eq_true rfl) ?_
  intro Γ E hQ hL hR hA hent hini
  have hAA : ∀ q, A q → jA Γ q := fun q h => by rw [hA]; exact h
  have hroom : ∀ (d mL : Nat) {mc ms : Nat}, d < 0 → mL ≤ 21 → (rmL d mc ms).frames + 1 ≤ (jR Γ).frames ∧ 8 + (mL + 11) + (rmL d mc ms).locals ≤ (jR Γ).locals := fun d mL mc ms h1 h2 => by rw [hR]; exact rmL_le h1 h2
  show J Γ 1 (HS κ A s0) 0 0 0 [(0, .ref a0)] []
  unfold f9_kind at hF
  refine j_blk (pc' := 1) (lv' := [(0, .ref a0)]) (st' := [.int (Int32.ofInt 4)]) E b_c9_kind_0_1 rfl ?_
  have e : res = Int32.ofInt 4 := g_inj hF
  subst e
  exact j_iret E hQ d_c9_kind_1 (fun _ h => h)
theorem b_kJ6_bitCount_0f7a4_0_4 : bdec cJ6_bitCount_0f7a4 0 [.iload_n 0, .iload_n 0, .iconst 1, .iushr] = true := by decide +kernel
theorem d_kJ6_bitCount_0f7a4_4 : decode cJ6_bitCount_0f7a4 4 = .ok (.ldc_w 265, 3) := by decide +kernel
theorem b_kJ6_bitCount_0f7a4_7_4 : bdec cJ6_bitCount_0f7a4 7 [.iand, .isub, .istore_n 0, .iload_n 0] = true := by decide +kernel
theorem d_kJ6_bitCount_0f7a4_11 : decode cJ6_bitCount_0f7a4 11 = .ok (.ldc_w 266, 3) := by decide +kernel
theorem b_kJ6_bitCount_0f7a4_14_4 : bdec cJ6_bitCount_0f7a4 14 [.iand, .iload_n 0, .iconst 2, .iushr] = true := by decide +kernel
theorem d_kJ6_bitCount_0f7a4_18 : decode cJ6_bitCount_0f7a4 18 = .ok (.ldc_w 266, 3) := by decide +kernel
theorem b_kJ6_bitCount_0f7a4_21_8 : bdec cJ6_bitCount_0f7a4 21 [.iand, .iadd, .istore_n 0, .iload_n 0, .iload_n 0, .iconst 4, .iushr, .iadd] = true := by decide +kernel
theorem d_kJ6_bitCount_0f7a4_29 : decode cJ6_bitCount_0f7a4 29 = .ok (.ldc_w 267, 3) := by decide +kernel
theorem b_kJ6_bitCount_0f7a4_32_17 : bdec cJ6_bitCount_0f7a4 32 [.iand, .istore_n 0, .iload_n 0, .iload_n 0, .bipush 8, .iushr, .iadd, .istore_n 0, .iload_n 0, .iload_n 0, .bipush 16, .iushr, .iadd, .istore_n 0, .iload_n 0, .bipush 63, .iand] = true := by decide +kernel
theorem d_kJ6_bitCount_0f7a4_52 : decode cJ6_bitCount_0f7a4 52 = .ok (.ireturn, 1) := by decide +kernel
def fJ6_bitCount_0f7a4 (p0 : Int32) : Option (Int32) := some ((((((((p0 - (((p0.toUInt32 >>> ((Int32.ofInt 1).toUInt32 &&& Int32.toUInt32 31)).toInt32) &&& 1431655765)) &&& 858993459) + ((((p0 - (((p0.toUInt32 >>> ((Int32.ofInt 1).toUInt32 &&& Int32.toUInt32 31)).toInt32) &&& 1431655765)).toUInt32 >>> ((Int32.ofInt 2).toUInt32 &&& Int32.toUInt32 31)).toInt32) &&& 858993459)) + (((((p0 - (((p0.toUInt32 >>> ((Int32.ofInt 1).toUInt32 &&& Int32.toUInt32 31)).toInt32) &&& 1431655765)) &&& 858993459) + ((((p0 - (((p0.toUInt32 >>> ((Int32.ofInt 1).toUInt32 &&& Int32.toUInt32 31)).toInt32) &&& 1431655765)).toUInt32 >>> ((Int32.ofInt 2).toUInt32 &&& Int32.toUInt32 31)).toInt32) &&& 858993459)).toUInt32 >>> ((Int32.ofInt 4).toUInt32 &&& Int32.toUInt32 31)).toInt32)) &&& 252645135) + (((((((p0 - (((p0.toUInt32 >>> ((Int32.ofInt 1).toUInt32 &&& Int32.toUInt32 31)).toInt32) &&& 1431655765)) &&& 858993459) + ((((p0 - (((p0.toUInt32 >>> ((Int32.ofInt 1).toUInt32 &&& Int32.toUInt32 31)).toInt32) &&& 1431655765)).toUInt32 >>> ((Int32.ofInt 2).toUInt32 &&& Int32.toUInt32 31)).toInt32) &&& 858993459)) + (((((p0 - (((p0.toUInt32 >>> ((Int32.ofInt 1).toUInt32 &&& Int32.toUInt32 31)).toInt32) &&& 1431655765)) &&& 858993459) + ((((p0 - (((p0.toUInt32 >>> ((Int32.ofInt 1).toUInt32 &&& Int32.toUInt32 31)).toInt32) &&& 1431655765)).toUInt32 >>> ((Int32.ofInt 2).toUInt32 &&& Int32.toUInt32 31)).toInt32) &&& 858993459)).toUInt32 >>> ((Int32.ofInt 4).toUInt32 &&& Int32.toUInt32 31)).toInt32)) &&& 252645135).toUInt32 >>> (((Int8.ofInt 8).toInt32).toUInt32 &&& Int32.toUInt32 31)).toInt32)) + ((((((((p0 - (((p0.toUInt32 >>> ((Int32.ofInt 1).toUInt32 &&& Int32.toUInt32 31)).toInt32) &&& 1431655765)) &&& 858993459) + ((((p0 - (((p0.toUInt32 >>> ((Int32.ofInt 1).toUInt32 &&& Int32.toUInt32 31)).toInt32) &&& 1431655765)).toUInt32 >>> ((Int32.ofInt 2).toUInt32 &&& Int32.toUInt32 31)).toInt32) &&& 858993459)) + (((((p0 - (((p0.toUInt32 >>> ((Int32.ofInt 1).toUInt32 &&& Int32.toUInt32 31)).toInt32) &&& 1431655765)) &&& 858993459) + ((((p0 - (((p0.toUInt32 >>> ((Int32.ofInt 1).toUInt32 &&& Int32.toUInt32 31)).toInt32) &&& 1431655765)).toUInt32 >>> ((Int32.ofInt 2).toUInt32 &&& Int32.toUInt32 31)).toInt32) &&& 858993459)).toUInt32 >>> ((Int32.ofInt 4).toUInt32 &&& Int32.toUInt32 31)).toInt32)) &&& 252645135) + (((((((p0 - (((p0.toUInt32 >>> ((Int32.ofInt 1).toUInt32 &&& Int32.toUInt32 31)).toInt32) &&& 1431655765)) &&& 858993459) + ((((p0 - (((p0.toUInt32 >>> ((Int32.ofInt 1).toUInt32 &&& Int32.toUInt32 31)).toInt32) &&& 1431655765)).toUInt32 >>> ((Int32.ofInt 2).toUInt32 &&& Int32.toUInt32 31)).toInt32) &&& 858993459)) + (((((p0 - (((p0.toUInt32 >>> ((Int32.ofInt 1).toUInt32 &&& Int32.toUInt32 31)).toInt32) &&& 1431655765)) &&& 858993459) + ((((p0 - (((p0.toUInt32 >>> ((Int32.ofInt 1).toUInt32 &&& Int32.toUInt32 31)).toInt32) &&& 1431655765)).toUInt32 >>> ((Int32.ofInt 2).toUInt32 &&& Int32.toUInt32 31)).toInt32) &&& 858993459)).toUInt32 >>> ((Int32.ofInt 4).toUInt32 &&& Int32.toUInt32 31)).toInt32)) &&& 252645135).toUInt32 >>> (((Int8.ofInt 8).toInt32).toUInt32 &&& Int32.toUInt32 31)).toInt32)).toUInt32 >>> (((Int8.ofInt 16).toInt32).toUInt32 &&& Int32.toUInt32 31)).toInt32)) &&& ((Int8.ofInt 63).toInt32))
set_option maxRecDepth 100000 in
set_option maxHeartbeats 4000000 in
theorem kJ6_bitCount_0f7a4 (l : Launch) (κ : KP) (A : Nat → Prop) (HP : Heap → Prop) (p0 : Int32) {res : Int32} (hF : fJ6_bitCount_0f7a4 p0 = some res) : Met l yJ6_bitCount_0f7a4 (Cond.code yJ6_bitCount_0f7a4 cJ6_bitCount_0f7a4 1 (some .int) :: WT) (rmL 0 0 0) (PP κ A [.int p0] HP) (QQ (some (.int res)) HP A) 0 0 A := by
  refine met_of (own := RJ6) (by decide) rfl (Nat.le_of_ble_eq_true rfl) ?_
  intro Γ E hQ hL hR hA hent hini
  have hAA : ∀ q, A q → jA Γ q := fun q h => by rw [hA]; exact h
  have hroom : ∀ (d mL : Nat) {mc ms : Nat}, d < 0 → mL ≤ 21 → (rmL d mc ms).frames + 1 ≤ (jR Γ).frames ∧ 8 + (mL + 11) + (rmL d mc ms).locals ≤ (jR Γ).locals := fun d mL mc ms h1 h2 => by rw [hR]; exact rmL_le h1 h2
  show J Γ 1 HP 0 0 0 [(0, .int p0)] []
  unfold fJ6_bitCount_0f7a4 at hF
  refine j_blk (pc' := 4) (lv' := [(0, .int p0)]) (st' := [.int ((p0.toUInt32 >>> ((Int32.ofInt 1).toUInt32 &&& Int32.toUInt32 31)).toInt32), .int p0]) E b_kJ6_bitCount_0f7a4_0_4 rfl ?_
  refine j_ldcw (x := 1431655765) E d_kJ6_bitCount_0f7a4_4 m_345 ?_
  refine j_blk (pc' := 11) (lv' := [(0, .int (p0 - (((p0.toUInt32 >>> ((Int32.ofInt 1).toUInt32 &&& Int32.toUInt32 31)).toInt32) &&& 1431655765)))]) (st' := [.int (p0 - (((p0.toUInt32 >>> ((Int32.ofInt 1).toUInt32 &&& Int32.toUInt32 31)).toInt32) &&& 1431655765))]) E b_kJ6_bitCount_0f7a4_7_4 rfl ?_
  refine j_ldcw (x := 858993459) E d_kJ6_bitCount_0f7a4_11 m_346 ?_
  refine j_blk (pc' := 18) (lv' := [(0, .int (p0 - (((p0.toUInt32 >>> ((Int32.ofInt 1).toUInt32 &&& Int32.toUInt32 31)).toInt32) &&& 1431655765)))]) (st' := [.int (((p0 - (((p0.toUInt32 >>> ((Int32.ofInt 1).toUInt32 &&& Int32.toUInt32 31)).toInt32) &&& 1431655765)).toUInt32 >>> ((Int32.ofInt 2).toUInt32 &&& Int32.toUInt32 31)).toInt32), .int ((p0 - (((p0.toUInt32 >>> ((Int32.ofInt 1).toUInt32 &&& Int32.toUInt32 31)).toInt32) &&& 1431655765)) &&& 858993459)]) E b_kJ6_bitCount_0f7a4_14_4 rfl ?_
  refine j_ldcw (x := 858993459) E d_kJ6_bitCount_0f7a4_18 m_346 ?_
  refine j_blk (pc' := 29) (lv' := [(0, .int (((p0 - (((p0.toUInt32 >>> ((Int32.ofInt 1).toUInt32 &&& Int32.toUInt32 31)).toInt32) &&& 1431655765)) &&& 858993459) + ((((p0 - (((p0.toUInt32 >>> ((Int32.ofInt 1).toUInt32 &&& Int32.toUInt32 31)).toInt32) &&& 1431655765)).toUInt32 >>> ((Int32.ofInt 2).toUInt32 &&& Int32.toUInt32 31)).toInt32) &&& 858993459)))]) (st' := [.int ((((p0 - (((p0.toUInt32 >>> ((Int32.ofInt 1).toUInt32 &&& Int32.toUInt32 31)).toInt32) &&& 1431655765)) &&& 858993459) + ((((p0 - (((p0.toUInt32 >>> ((Int32.ofInt 1).toUInt32 &&& Int32.toUInt32 31)).toInt32) &&& 1431655765)).toUInt32 >>> ((Int32.ofInt 2).toUInt32 &&& Int32.toUInt32 31)).toInt32) &&& 858993459)) + (((((p0 - (((p0.toUInt32 >>> ((Int32.ofInt 1).toUInt32 &&& Int32.toUInt32 31)).toInt32) &&& 1431655765)) &&& 858993459) + ((((p0 - (((p0.toUInt32 >>> ((Int32.ofInt 1).toUInt32 &&& Int32.toUInt32 31)).toInt32) &&& 1431655765)).toUInt32 >>> ((Int32.ofInt 2).toUInt32 &&& Int32.toUInt32 31)).toInt32) &&& 858993459)).toUInt32 >>> ((Int32.ofInt 4).toUInt32 &&& Int32.toUInt32 31)).toInt32))]) E b_kJ6_bitCount_0f7a4_21_8 rfl ?_
  refine j_ldcw (x := 252645135) E d_kJ6_bitCount_0f7a4_29 m_347 ?_
  refine j_blk (pc' := 52) (lv' := [(0, .int (((((((p0 - (((p0.toUInt32 >>> ((Int32.ofInt 1).toUInt32 &&& Int32.toUInt32 31)).toInt32) &&& 1431655765)) &&& 858993459) + ((((p0 - (((p0.toUInt32 >>> ((Int32.ofInt 1).toUInt32 &&& Int32.toUInt32 31)).toInt32) &&& 1431655765)).toUInt32 >>> ((Int32.ofInt 2).toUInt32 &&& Int32.toUInt32 31)).toInt32) &&& 858993459)) + (((((p0 - (((p0.toUInt32 >>> ((Int32.ofInt 1).toUInt32 &&& Int32.toUInt32 31)).toInt32) &&& 1431655765)) &&& 858993459) + ((((p0 - (((p0.toUInt32 >>> ((Int32.ofInt 1).toUInt32 &&& Int32.toUInt32 31)).toInt32) &&& 1431655765)).toUInt32 >>> ((Int32.ofInt 2).toUInt32 &&& Int32.toUInt32 31)).toInt32) &&& 858993459)).toUInt32 >>> ((Int32.ofInt 4).toUInt32 &&& Int32.toUInt32 31)).toInt32)) &&& 252645135) + (((((((p0 - (((p0.toUInt32 >>> ((Int32.ofInt 1).toUInt32 &&& Int32.toUInt32 31)).toInt32) &&& 1431655765)) &&& 858993459) + ((((p0 - (((p0.toUInt32 >>> ((Int32.ofInt 1).toUInt32 &&& Int32.toUInt32 31)).toInt32) &&& 1431655765)).toUInt32 >>> ((Int32.ofInt 2).toUInt32 &&& Int32.toUInt32 31)).toInt32) &&& 858993459)) + (((((p0 - (((p0.toUInt32 >>> ((Int32.ofInt 1).toUInt32 &&& Int32.toUInt32 31)).toInt32) &&& 1431655765)) &&& 858993459) + ((((p0 - (((p0.toUInt32 >>> ((Int32.ofInt 1).toUInt32 &&& Int32.toUInt32 31)).toInt32) &&& 1431655765)).toUInt32 >>> ((Int32.ofInt 2).toUInt32 &&& Int32.toUInt32 31)).toInt32) &&& 858993459)).toUInt32 >>> ((Int32.ofInt 4).toUInt32 &&& Int32.toUInt32 31)).toInt32)) &&& 252645135).toUInt32 >>> (((Int8.ofInt 8).toInt32).toUInt32 &&& Int32.toUInt32 31)).toInt32)) + ((((((((p0 - (((p0.toUInt32 >>> ((Int32.ofInt 1).toUInt32 &&& Int32.toUInt32 31)).toInt32) &&& 1431655765)) &&& 858993459) + ((((p0 - (((p0.toUInt32 >>> ((Int32.ofInt 1).toUInt32 &&& Int32.toUInt32 31)).toInt32) &&& 1431655765)).toUInt32 >>> ((Int32.ofInt 2).toUInt32 &&& Int32.toUInt32 31)).toInt32) &&& 858993459)) + (((((p0 - (((p0.toUInt32 >>> ((Int32.ofInt 1).toUInt32 &&& Int32.toUInt32 31)).toInt32) &&& 1431655765)) &&& 858993459) + ((((p0 - (((p0.toUInt32 >>> ((Int32.ofInt 1).toUInt32 &&& Int32.toUInt32 31)).toInt32) &&& 1431655765)).toUInt32 >>> ((Int32.ofInt 2).toUInt32 &&& Int32.toUInt32 31)).toInt32) &&& 858993459)).toUInt32 >>> ((Int32.ofInt 4).toUInt32 &&& Int32.toUInt32 31)).toInt32)) &&& 252645135) + (((((((p0 - (((p0.toUInt32 >>> ((Int32.ofInt 1).toUInt32 &&& Int32.toUInt32 31)).toInt32) &&& 1431655765)) &&& 858993459) + ((((p0 - (((p0.toUInt32 >>> ((Int32.ofInt 1).toUInt32 &&& Int32.toUInt32 31)).toInt32) &&& 1431655765)).toUInt32 >>> ((Int32.ofInt 2).toUInt32 &&& Int32.toUInt32 31)).toInt32) &&& 858993459)) + (((((p0 - (((p0.toUInt32 >>> ((Int32.ofInt 1).toUInt32 &&& Int32.toUInt32 31)).toInt32) &&& 1431655765)) &&& 858993459) + ((((p0 - (((p0.toUInt32 >>> ((Int32.ofInt 1).toUInt32 &&& Int32.toUInt32 31)).toInt32) &&& 1431655765)).toUInt32 >>> ((Int32.ofInt 2).toUInt32 &&& Int32.toUInt32 31)).toInt32) &&& 858993459)).toUInt32 >>> ((Int32.ofInt 4).toUInt32 &&& Int32.toUInt32 31)).toInt32)) &&& 252645135).toUInt32 >>> (((Int8.ofInt 8).toInt32).toUInt32 &&& Int32.toUInt32 31)).toInt32)).toUInt32 >>> (((Int8.ofInt 16).toInt32).toUInt32 &&& Int32.toUInt32 31)).toInt32)))]) (st' := [.int ((((((((p0 - (((p0.toUInt32 >>> ((Int32.ofInt 1).toUInt32 &&& Int32.toUInt32 31)).toInt32) &&& 1431655765)) &&& 858993459) + ((((p0 - (((p0.toUInt32 >>> ((Int32.ofInt 1).toUInt32 &&& Int32.toUInt32 31)).toInt32) &&& 1431655765)).toUInt32 >>> ((Int32.ofInt 2).toUInt32 &&& Int32.toUInt32 31)).toInt32) &&& 858993459)) + (((((p0 - (((p0.toUInt32 >>> ((Int32.ofInt 1).toUInt32 &&& Int32.toUInt32 31)).toInt32) &&& 1431655765)) &&& 858993459) + ((((p0 - (((p0.toUInt32 >>> ((Int32.ofInt 1).toUInt32 &&& Int32.toUInt32 31)).toInt32) &&& 1431655765)).toUInt32 >>> ((Int32.ofInt 2).toUInt32 &&& Int32.toUInt32 31)).toInt32) &&& 858993459)).toUInt32 >>> ((Int32.ofInt 4).toUInt32 &&& Int32.toUInt32 31)).toInt32)) &&& 252645135) + (((((((p0 - (((p0.toUInt32 >>> ((Int32.ofInt 1).toUInt32 &&& Int32.toUInt32 31)).toInt32) &&& 1431655765)) &&& 858993459) + ((((p0 - (((p0.toUInt32 >>> ((Int32.ofInt 1).toUInt32 &&& Int32.toUInt32 31)).toInt32) &&& 1431655765)).toUInt32 >>> ((Int32.ofInt 2).toUInt32 &&& Int32.toUInt32 31)).toInt32) &&& 858993459)) + (((((p0 - (((p0.toUInt32 >>> ((Int32.ofInt 1).toUInt32 &&& Int32.toUInt32 31)).toInt32) &&& 1431655765)) &&& 858993459) + ((((p0 - (((p0.toUInt32 >>> ((Int32.ofInt 1).toUInt32 &&& Int32.toUInt32 31)).toInt32) &&& 1431655765)).toUInt32 >>> ((Int32.ofInt 2).toUInt32 &&& Int32.toUInt32 31)).toInt32) &&& 858993459)).toUInt32 >>> ((Int32.ofInt 4).toUInt32 &&& Int32.toUInt32 31)).toInt32)) &&& 252645135).toUInt32 >>> (((Int8.ofInt 8).toInt32).toUInt32 &&& Int32.toUInt32 31)).toInt32)) + ((((((((p0 - (((p0.toUInt32 >>> ((Int32.ofInt 1).toUInt32 &&& Int32.toUInt32 31)).toInt32) &&& 1431655765)) &&& 858993459) + ((((p0 - (((p0.toUInt32 >>> ((Int32.ofInt 1).toUInt32 &&& Int32.toUInt32 31)).toInt32) &&& 1431655765)).toUInt32 >>> ((Int32.ofInt 2).toUInt32 &&& Int32.toUInt32 31)).toInt32) &&& 858993459)) + (((((p0 - (((p0.toUInt32 >>> ((Int32.ofInt 1).toUInt32 &&& Int32.toUInt32 31)).toInt32) &&& 1431655765)) &&& 858993459) + ((((p0 - (((p0.toUInt32 >>> ((Int32.ofInt 1).toUInt32 &&& Int32.toUInt32 31)).toInt32) &&& 1431655765)).toUInt32 >>> ((Int32.ofInt 2).toUInt32 &&& Int32.toUInt32 31)).toInt32) &&& 858993459)).toUInt32 >>> ((Int32.ofInt 4).toUInt32 &&& Int32.toUInt32 31)).toInt32)) &&& 252645135) + (((((((p0 - (((p0.toUInt32 >>> ((Int32.ofInt 1).toUInt32 &&& Int32.toUInt32 31)).toInt32) &&& 1431655765)) &&& 858993459) + ((((p0 - (((p0.toUInt32 >>> ((Int32.ofInt 1).toUInt32 &&& Int32.toUInt32 31)).toInt32) &&& 1431655765)).toUInt32 >>> ((Int32.ofInt 2).toUInt32 &&& Int32.toUInt32 31)).toInt32) &&& 858993459)) + (((((p0 - (((p0.toUInt32 >>> ((Int32.ofInt 1).toUInt32 &&& Int32.toUInt32 31)).toInt32) &&& 1431655765)) &&& 858993459) + ((((p0 - (((p0.toUInt32 >>> ((Int32.ofInt 1).toUInt32 &&& Int32.toUInt32 31)).toInt32) &&& 1431655765)).toUInt32 >>> ((Int32.ofInt 2).toUInt32 &&& Int32.toUInt32 31)).toInt32) &&& 858993459)).toUInt32 >>> ((Int32.ofInt 4).toUInt32 &&& Int32.toUInt32 31)).toInt32)) &&& 252645135).toUInt32 >>> (((Int8.ofInt 8).toInt32).toUInt32 &&& Int32.toUInt32 31)).toInt32)).toUInt32 >>> (((Int8.ofInt 16).toInt32).toUInt32 &&& Int32.toUInt32 31)).toInt32)) &&& ((Int8.ofInt 63).toInt32))]) E b_kJ6_bitCount_0f7a4_32_17 rfl ?_
  have e : res = (((((((p0 - (((p0.toUInt32 >>> ((Int32.ofInt 1).toUInt32 &&& Int32.toUInt32 31)).toInt32) &&& 1431655765)) &&& 858993459) + ((((p0 - (((p0.toUInt32 >>> ((Int32.ofInt 1).toUInt32 &&& Int32.toUInt32 31)).toInt32) &&& 1431655765)).toUInt32 >>> ((Int32.ofInt 2).toUInt32 &&& Int32.toUInt32 31)).toInt32) &&& 858993459)) + (((((p0 - (((p0.toUInt32 >>> ((Int32.ofInt 1).toUInt32 &&& Int32.toUInt32 31)).toInt32) &&& 1431655765)) &&& 858993459) + ((((p0 - (((p0.toUInt32 >>> ((Int32.ofInt 1).toUInt32 &&& Int32.toUInt32 31)).toInt32) &&& 1431655765)).toUInt32 >>> ((Int32.ofInt 2).toUInt32 &&& Int32.toUInt32 31)).toInt32) &&& 858993459)).toUInt32 >>> ((Int32.ofInt 4).toUInt32 &&& Int32.toUInt32 31)).toInt32)) &&& 252645135) + (((((((p0 - (((p0.toUInt32 >>> ((Int32.ofInt 1).toUInt32 &&& Int32.toUInt32 31)).toInt32) &&& 1431655765)) &&& 858993459) + ((((p0 - (((p0.toUInt32 >>> ((Int32.ofInt 1).toUInt32 &&& Int32.toUInt32 31)).toInt32) &&& 1431655765)).toUInt32 >>> ((Int32.ofInt 2).toUInt32 &&& Int32.toUInt32 31)).toInt32) &&& 858993459)) + (((((p0 - (((p0.toUInt32 >>> ((Int32.ofInt 1).toUInt32 &&& Int32.toUInt32 31)).toInt32) &&& 1431655765)) &&& 858993459) + ((((p0 - (((p0.toUInt32 >>> ((Int32.ofInt 1).toUInt32 &&& Int32.toUInt32 31)).toInt32) &&& 1431655765)).toUInt32 >>> ((Int32.ofInt 2).toUInt32 &&& Int32.toUInt32 31)).toInt32) &&& 858993459)).toUInt32 >>> ((Int32.ofInt 4).toUInt32 &&& Int32.toUInt32 31)).toInt32)) &&& 252645135).toUInt32 >>> (((Int8.ofInt 8).toInt32).toUInt32 &&& Int32.toUInt32 31)).toInt32)) + ((((((((p0 - (((p0.toUInt32 >>> ((Int32.ofInt 1).toUInt32 &&& Int32.toUInt32 31)).toInt32) &&& 1431655765)) &&& 858993459) + ((((p0 - (((p0.toUInt32 >>> ((Int32.ofInt 1).toUInt32 &&& Int32.toUInt32 31)).toInt32) &&& 1431655765)).toUInt32 >>> ((Int32.ofInt 2).toUInt32 &&& Int32.toUInt32 31)).toInt32) &&& 858993459)) + (((((p0 - (((p0.toUInt32 >>> ((Int32.ofInt 1).toUInt32 &&& Int32.toUInt32 31)).toInt32) &&& 1431655765)) &&& 858993459) + ((((p0 - (((p0.toUInt32 >>> ((Int32.ofInt 1).toUInt32 &&& Int32.toUInt32 31)).toInt32) &&& 1431655765)).toUInt32 >>> ((Int32.ofInt 2).toUInt32 &&& Int32.toUInt32 31)).toInt32) &&& 858993459)).toUInt32 >>> ((Int32.ofInt 4).toUInt32 &&& Int32.toUInt32 31)).toInt32)) &&& 252645135) + (((((((p0 - (((p0.toUInt32 >>> ((Int32.ofInt 1).toUInt32 &&& Int32.toUInt32 31)).toInt32) &&& 1431655765)) &&& 858993459) + ((((p0 - (((p0.toUInt32 >>> ((Int32.ofInt 1).toUInt32 &&& Int32.toUInt32 31)).toInt32) &&& 1431655765)).toUInt32 >>> ((Int32.ofInt 2).toUInt32 &&& Int32.toUInt32 31)).toInt32) &&& 858993459)) + (((((p0 - (((p0.toUInt32 >>> ((Int32.ofInt 1).toUInt32 &&& Int32.toUInt32 31)).toInt32) &&& 1431655765)) &&& 858993459) + ((((p0 - (((p0.toUInt32 >>> ((Int32.ofInt 1).toUInt32 &&& Int32.toUInt32 31)).toInt32) &&& 1431655765)).toUInt32 >>> ((Int32.ofInt 2).toUInt32 &&& Int32.toUInt32 31)).toInt32) &&& 858993459)).toUInt32 >>> ((Int32.ofInt 4).toUInt32 &&& Int32.toUInt32 31)).toInt32)) &&& 252645135).toUInt32 >>> (((Int8.ofInt 8).toInt32).toUInt32 &&& Int32.toUInt32 31)).toInt32)).toUInt32 >>> (((Int8.ofInt 16).toInt32).toUInt32 &&& Int32.toUInt32 31)).toInt32)) &&& ((Int8.ofInt 63).toInt32) := g_inj hF
  subst e
  exact j_iret E hQ d_kJ6_bitCount_0f7a4_52 (fun _ h => h)
theorem b_c0_skill_0_1 : bdec cX0_skill 0 [.aload_n 0] = true := by decide +kernel
theorem d_c0_skill_1 : decode cX0_skill 1 = .ok (.invokespecial 7, 3) := by decide +kernel
theorem b_c0_skill_4_2 : bdec cX0_skill 4 [.bipush 9, .iadd] = true := by decide +kernel
theorem d_c0_skill_7 : decode cX0_skill 7 = .ok (.ireturn, 1) := by decide +kernel
def f0_skill (s0 : HM) (a0 : Nat) : Option (Int32) := obd (hcls s0 a0) (fun c3 => ogd (Nat.blt c3 12) (obd (f6_skill s0 a0) (fun v2 => some (v2 + ((Int8.ofInt 9).toInt32)))))
set_option maxRecDepth 100000 in
set_option maxHeartbeats 4000000 in
theorem c0_skill (l : Launch) (κ : KP) (A : Nat → Prop) (s0 : HM) (a0 : Nat) {res : Int32} (hF : f0_skill s0 a0 = some res) : Met l yX0_skill (Cond.code yX0_skill cX0_skill 1 (some .int) :: WT) (rmL 1 0 0) (PP κ A [.ref a0] (HS κ A s0)) (QQ (some (.int res)) (HS κ A s0) A) 0 0 A := by
  refine met_of (own := RX0) (by decide) rfl (Nat.le_of_ble_eq_true rfl) ?_
  intro Γ E hQ hL hR hA hent hini
  have hAA : ∀ q, A q → jA Γ q := fun q h => by rw [hA]; exact h
  have hroom : ∀ (d mL : Nat) {mc ms : Nat}, d < 1 → mL ≤ 21 → (rmL d mc ms).frames + 1 ≤ (jR Γ).frames ∧ 8 + (mL + 11) + (rmL d mc ms).locals ≤ (jR Γ).locals := fun d mL mc ms h1 h2 => by rw [hR]; exact rmL_le h1 h2
  show J Γ 1 (HS κ A s0) 0 0 0 [(0, .ref a0)] []
  unfold f0_skill at hF
  refine j_blk (pc' := 1) (lv' := [(0, .ref a0)]) (st' := [.ref a0]) E b_c0_skill_0_1 rfl ?_
  replace hF := obd_at hF
  obtain ⟨c3, hc, hF⟩ := hF
  replace hF := ogd_at hF
  obtain ⟨hc12, hF⟩ := hF
  replace hF := obd_at hF
  obtain ⟨v2, he1, hF⟩ := hF
  refine j_callx [] [] E w_RX0_7 (hroom 0 1 (by decide) (by decide)) hAA (c6_skill _ κ A _ _  he1) hc (blt_of hc12) (fun _ _ _ h _ _ => h) rfl rfl (Nat.le_of_ble_eq_true rfl) d_c0_skill_1 ⟨Nat.zero_le _, Nat.zero_le _⟩ ?_
  refine j_blk (pc' := 7) (lv' := [(0, .ref a0)]) (st' := [.int (v2 + ((Int8.ofInt 9).toInt32))]) E b_c0_skill_4_2 rfl ?_
  have e : res = v2 + ((Int8.ofInt 9).toInt32) := g_inj hF
  subst e
  exact j_iret E hQ d_c0_skill_7 (fun _ h => h)
theorem b_c0_cost_0_1 : bdec cX0_cost 0 [.aload_n 0] = true := by decide +kernel
theorem d_c0_cost_1 : decode cX0_cost 1 = .ok (.invokespecial 11, 3) := by decide +kernel
theorem b_c0_cost_4_2 : bdec cX0_cost 4 [.iconst 4, .imul] = true := by decide +kernel
theorem d_c0_cost_6 : decode cX0_cost 6 = .ok (.ireturn, 1) := by decide +kernel
def f0_cost (s0 : HM) (a0 : Nat) : Option (Int32) := obd (hcls s0 a0) (fun c3 => ogd (Nat.blt c3 12) (obd (f6_cost s0 a0) (fun v2 => some (v2 * (Int32.ofInt 4)))))
set_option maxRecDepth 100000 in
set_option maxHeartbeats 4000000 in
theorem c0_cost (l : Launch) (κ : KP) (A : Nat → Prop) (s0 : HM) (a0 : Nat) {res : Int32} (hF : f0_cost s0 a0 = some res) : Met l yX0_cost (Cond.code yX0_cost cX0_cost 1 (some .int) :: WT) (rmL 1 0 0) (PP κ A [.ref a0] (HS κ A s0)) (QQ (some (.int res)) (HS κ A s0) A) 0 0 A := by
  refine met_of (own := RX0) (by decide) rfl (Nat.le_of_ble_eq_true rfl) ?_
  intro Γ E hQ hL hR hA hent hini
  have hAA : ∀ q, A q → jA Γ q := fun q h => by rw [hA]; exact h
  have hroom : ∀ (d mL : Nat) {mc ms : Nat}, d < 1 → mL ≤ 21 → (rmL d mc ms).frames + 1 ≤ (jR Γ).frames ∧ 8 + (mL + 11) + (rmL d mc ms).locals ≤ (jR Γ).locals := fun d mL mc ms h1 h2 => by rw [hR]; exact rmL_le h1 h2
  show J Γ 1 (HS κ A s0) 0 0 0 [(0, .ref a0)] []
  unfold f0_cost at hF
  refine j_blk (pc' := 1) (lv' := [(0, .ref a0)]) (st' := [.ref a0]) E b_c0_cost_0_1 rfl ?_
  replace hF := obd_at hF
  obtain ⟨c3, hc, hF⟩ := hF
  replace hF := ogd_at hF
  obtain ⟨hc12, hF⟩ := hF
  replace hF := obd_at hF
  obtain ⟨v2, he1, hF⟩ := hF
  refine j_callx [] [] E w_RX0_11 (hroom 0 1 (by decide) (by decide)) hAA (c6_cost _ κ A _ _  he1) hc (blt_of hc12) (fun _ _ _ h _ _ => h) rfl rfl (Nat.le_of_ble_eq_true rfl) d_c0_cost_1 ⟨Nat.zero_le _, Nat.zero_le _⟩ ?_
  refine j_blk (pc' := 6) (lv' := [(0, .ref a0)]) (st' := [.int (v2 * (Int32.ofInt 4))]) E b_c0_cost_4_2 rfl ?_
  have e : res = v2 * (Int32.ofInt 4) := g_inj hF
  subst e
  exact j_iret E hQ d_c0_cost_6 (fun _ h => h)
theorem b_c1_skill_0_1 : bdec cX1_skill 0 [.aload_n 0] = true := by decide +kernel
theorem d_c1_skill_1 : decode cX1_skill 1 = .ok (.invokespecial 7, 3) := by decide +kernel
theorem b_c1_skill_4_2 : bdec cX1_skill 4 [.iconst 3, .iadd] = true := by decide +kernel
theorem d_c1_skill_6 : decode cX1_skill 6 = .ok (.ireturn, 1) := by decide +kernel
def f1_skill (s0 : HM) (a0 : Nat) : Option (Int32) := obd (hcls s0 a0) (fun c3 => ogd (Nat.blt c3 12) (obd (f6_skill s0 a0) (fun v2 => some (v2 + (Int32.ofInt 3)))))
set_option maxRecDepth 100000 in
set_option maxHeartbeats 4000000 in
theorem c1_skill (l : Launch) (κ : KP) (A : Nat → Prop) (s0 : HM) (a0 : Nat) {res : Int32} (hF : f1_skill s0 a0 = some res) : Met l yX1_skill (Cond.code yX1_skill cX1_skill 1 (some .int) :: WT) (rmL 1 0 0) (PP κ A [.ref a0] (HS κ A s0)) (QQ (some (.int res)) (HS κ A s0) A) 0 0 A := by
  refine met_of (own := RX1) (by decide) rfl (Nat.le_of_ble_eq_true rfl) ?_
  intro Γ E hQ hL hR hA hent hini
  have hAA : ∀ q, A q → jA Γ q := fun q h => by rw [hA]; exact h
  have hroom : ∀ (d mL : Nat) {mc ms : Nat}, d < 1 → mL ≤ 21 → (rmL d mc ms).frames + 1 ≤ (jR Γ).frames ∧ 8 + (mL + 11) + (rmL d mc ms).locals ≤ (jR Γ).locals := fun d mL mc ms h1 h2 => by rw [hR]; exact rmL_le h1 h2
  show J Γ 1 (HS κ A s0) 0 0 0 [(0, .ref a0)] []
  unfold f1_skill at hF
  refine j_blk (pc' := 1) (lv' := [(0, .ref a0)]) (st' := [.ref a0]) E b_c1_skill_0_1 rfl ?_
  replace hF := obd_at hF
  obtain ⟨c3, hc, hF⟩ := hF
  replace hF := ogd_at hF
  obtain ⟨hc12, hF⟩ := hF
  replace hF := obd_at hF
  obtain ⟨v2, he1, hF⟩ := hF
  refine j_callx [] [] E w_RX1_7 (hroom 0 1 (by decide) (by decide)) hAA (c6_skill _ κ A _ _  he1) hc (blt_of hc12) (fun _ _ _ h _ _ => h) rfl rfl (Nat.le_of_ble_eq_true rfl) d_c1_skill_1 ⟨Nat.zero_le _, Nat.zero_le _⟩ ?_
  refine j_blk (pc' := 6) (lv' := [(0, .ref a0)]) (st' := [.int (v2 + (Int32.ofInt 3))]) E b_c1_skill_4_2 rfl ?_
  have e : res = v2 + (Int32.ofInt 3) := g_inj hF
  subst e
  exact j_iret E hQ d_c1_skill_6 (fun _ h => h)
theorem b_c1_cost_0_2 : bdec cX1_cost 0 [.iconst 2, .aload_n 0] = true := by decide +kernel
theorem d_c1_cost_2 : decode cX1_cost 2 = .ok (.invokespecial 11, 3) := by decide +kernel
theorem b_c1_cost_5_1 : bdec cX1_cost 5 [.imul] = true := by decide +kernel
theorem d_c1_cost_6 : decode cX1_cost 6 = .ok (.ireturn, 1) := by decide +kernel
def f1_cost (s0 : HM) (a0 : Nat) : Option (Int32) := obd (hcls s0 a0) (fun c3 => ogd (Nat.blt c3 12) (obd (f6_cost s0 a0) (fun v2 => some ((Int32.ofInt 2) * v2))))
set_option maxRecDepth 100000 in
set_option maxHeartbeats 4000000 in
theorem c1_cost (l : Launch) (κ : KP) (A : Nat → Prop) (s0 : HM) (a0 : Nat) {res : Int32} (hF : f1_cost s0 a0 = some res) : Met l yX1_cost (Cond.code yX1_cost cX1_cost 1 (some .int) :: WT) (rmL 1 0 0) (PP κ A [.ref a0] (HS κ A s0)) (QQ (some (.int res)) (HS κ A s0) A) 0 0 A := by
  refine met_of (own := RX1) (by decide) rfl (Nat.le_of_ble_eq_true rfl) ?_
  intro Γ E hQ hL hR hA hent hini
  have hAA : ∀ q, A q → jA Γ q := fun q h => by rw [hA]; exact h
  have hroom : ∀ (d mL : Nat) {mc ms : Nat}, d < 1 → mL ≤ 21 → (rmL d mc ms).frames + 1 ≤ (jR Γ).frames ∧ 8 + (mL + 11) + (rmL d mc ms).locals ≤ (jR Γ).locals := fun d mL mc ms h1 h2 => by rw [hR]; exact rmL_le h1 h2
  show J Γ 1 (HS κ A s0) 0 0 0 [(0, .ref a0)] []
  unfold f1_cost at hF
  refine j_blk (pc' := 2) (lv' := [(0, .ref a0)]) (st' := [.ref a0, .int (Int32.ofInt 2)]) E b_c1_cost_0_2 rfl ?_
  replace hF := obd_at hF
  obtain ⟨c3, hc, hF⟩ := hF
  replace hF := ogd_at hF
  obtain ⟨hc12, hF⟩ := hF
  replace hF := obd_at hF
  obtain ⟨v2, he1, hF⟩ := hF
  refine j_callx [] [.int (Int32.ofInt 2)] E w_RX1_11 (hroom 0 1 (by decide) (by decide)) hAA (c6_cost _ κ A _ _  he1) hc (blt_of hc12) (fun _ _ _ h _ _ => h) rfl rfl (Nat.le_of_ble_eq_true rfl) d_c1_cost_2 ⟨Nat.zero_le _, Nat.zero_le _⟩ ?_
  refine j_blk (pc' := 6) (lv' := [(0, .ref a0)]) (st' := [.int ((Int32.ofInt 2) * v2)]) E b_c1_cost_5_1 rfl ?_
  have e : res = (Int32.ofInt 2) * v2 := g_inj hF
  subst e
  exact j_iret E hQ d_c1_cost_6 (fun _ h => h)
theorem b_c4_skill_0_2 : bdec cX4_skill 0 [.iconst 2, .aload_n 0] = true := by decide +kernel
theorem d_c4_skill_2 : decode cX4_skill 2 = .ok (.invokespecial 7, 3) := by decide +kernel
theorem b_c4_skill_5_1 : bdec cX4_skill 5 [.imul] = true := by decide +kernel
theorem d_c4_skill_6 : decode cX4_skill 6 = .ok (.ireturn, 1) := by decide +kernel
def f4_skill (s0 : HM) (a0 : Nat) : Option (Int32) := obd (hcls s0 a0) (fun c3 => ogd (Nat.blt c3 12) (obd (f6_skill s0 a0) (fun v2 => some ((Int32.ofInt 2) * v2))))
set_option maxRecDepth 100000 in
set_option maxHeartbeats 4000000 in
theorem c4_skill (l : Launch) (κ : KP) (A : Nat → Prop) (s0 : HM) (a0 : Nat) {res : Int32} (hF : f4_skill s0 a0 = some res) : Met l yX4_skill (Cond.code yX4_skill cX4_skill 1 (some .int) :: WT) (rmL 1 0 0) (PP κ A [.ref a0] (HS κ A s0)) (QQ (some (.int res)) (HS κ A s0) A) 0 0 A := by
  refine met_of (own := RX4) (by decide) rfl (Nat.le_of_ble_eq_true rfl) ?_
  intro Γ E hQ hL hR hA hent hini
  have hAA : ∀ q, A q → jA Γ q := fun q h => by rw [hA]; exact h
  have hroom : ∀ (d mL : Nat) {mc ms : Nat}, d < 1 → mL ≤ 21 → (rmL d mc ms).frames + 1 ≤ (jR Γ).frames ∧ 8 + (mL + 11) + (rmL d mc ms).locals ≤ (jR Γ).locals := fun d mL mc ms h1 h2 => by rw [hR]; exact rmL_le h1 h2
  show J Γ 1 (HS κ A s0) 0 0 0 [(0, .ref a0)] []
  unfold f4_skill at hF
  refine j_blk (pc' := 2) (lv' := [(0, .ref a0)]) (st' := [.ref a0, .int (Int32.ofInt 2)]) E b_c4_skill_0_2 rfl ?_
  replace hF := obd_at hF
  obtain ⟨c3, hc, hF⟩ := hF
  replace hF := ogd_at hF
  obtain ⟨hc12, hF⟩ := hF
  replace hF := obd_at hF
  obtain ⟨v2, he1, hF⟩ := hF
  refine j_callx [] [.int (Int32.ofInt 2)] E w_RX4_7 (hroom 0 1 (by decide) (by decide)) hAA (c6_skill _ κ A _ _  he1) hc (blt_of hc12) (fun _ _ _ h _ _ => h) rfl rfl (Nat.le_of_ble_eq_true rfl) d_c4_skill_2 ⟨Nat.zero_le _, Nat.zero_le _⟩ ?_
  refine j_blk (pc' := 6) (lv' := [(0, .ref a0)]) (st' := [.int ((Int32.ofInt 2) * v2)]) E b_c4_skill_5_1 rfl ?_
  have e : res = (Int32.ofInt 2) * v2 := g_inj hF
  subst e
  exact j_iret E hQ d_c4_skill_6 (fun _ h => h)
theorem b_c4_cost_0_1 : bdec cX4_cost 0 [.aload_n 0] = true := by decide +kernel
theorem d_c4_cost_1 : decode cX4_cost 1 = .ok (.invokespecial 17, 3) := by decide +kernel
theorem b_c4_cost_4_1 : bdec cX4_cost 4 [.aload_n 0] = true := by decide +kernel
theorem d_c4_cost_5 : decode cX4_cost 5 = .ok (.getfield 11, 3) := by decide +kernel
theorem b_c4_cost_8_1 : bdec cX4_cost 8 [.iadd] = true := by decide +kernel
theorem d_c4_cost_9 : decode cX4_cost 9 = .ok (.ireturn, 1) := by decide +kernel
def f4_cost (s0 : HM) (a0 : Nat) : Option (Int32) := obd (hcls s0 a0) (fun c3 => ogd (Nat.blt c3 12) (obd (f6_cost s0 a0) (fun v2 => obd (hfi s0 sP 0 a0) (fun v4 => some (v2 + v4)))))
set_option maxRecDepth 100000 in
set_option maxHeartbeats 4000000 in
theorem c4_cost (l : Launch) (κ : KP) (A : Nat → Prop) (s0 : HM) (a0 : Nat) {res : Int32} (hF : f4_cost s0 a0 = some res) : Met l yX4_cost (Cond.code yX4_cost cX4_cost 1 (some .int) :: WT) (rmL 1 0 0) (PP κ A [.ref a0] (HS κ A s0)) (QQ (some (.int res)) (HS κ A s0) A) 0 0 A := by
  refine met_of (own := RX4) (by decide) rfl (Nat.le_of_ble_eq_true rfl) ?_
  intro Γ E hQ hL hR hA hent hini
  have hAA : ∀ q, A q → jA Γ q := fun q h => by rw [hA]; exact h
  have hroom : ∀ (d mL : Nat) {mc ms : Nat}, d < 1 → mL ≤ 21 → (rmL d mc ms).frames + 1 ≤ (jR Γ).frames ∧ 8 + (mL + 11) + (rmL d mc ms).locals ≤ (jR Γ).locals := fun d mL mc ms h1 h2 => by rw [hR]; exact rmL_le h1 h2
  show J Γ 1 (HS κ A s0) 0 0 0 [(0, .ref a0)] []
  unfold f4_cost at hF
  refine j_blk (pc' := 1) (lv' := [(0, .ref a0)]) (st' := [.ref a0]) E b_c4_cost_0_1 rfl ?_
  replace hF := obd_at hF
  obtain ⟨c3, hc, hF⟩ := hF
  replace hF := ogd_at hF
  obtain ⟨hc12, hF⟩ := hF
  replace hF := obd_at hF
  obtain ⟨v2, he1, hF⟩ := hF
  refine j_callx [] [] E w_RX4_17 (hroom 0 1 (by decide) (by decide)) hAA (c6_cost _ κ A _ _  he1) hc (blt_of hc12) (fun _ _ _ h _ _ => h) rfl rfl (Nat.le_of_ble_eq_true rfl) d_c4_cost_1 ⟨Nat.zero_le _, Nat.zero_le _⟩ ?_
  refine j_blk (pc' := 5) (lv' := [(0, .ref a0)]) (st' := [.ref a0, .int v2]) E b_c4_cost_4_1 rfl ?_
  replace hF := obd_at hF
  obtain ⟨v4, ev4, hF⟩ := hF
  refine j_getI E fg_RX4_11 d_c4_cost_5 ev4 ?_
  refine j_blk (pc' := 9) (lv' := [(0, .ref a0)]) (st' := [.int (v2 + v4)]) E b_c4_cost_8_1 rfl ?_
  have e : res = v2 + v4 := g_inj hF
  subst e
  exact j_iret E hQ d_c4_cost_9 (fun _ h => h)
theorem b_c5_cost_0_1 : bdec cX5_cost 0 [.aload_n 0] = true := by decide +kernel
theorem d_c5_cost_1 : decode cX5_cost 1 = .ok (.invokespecial 7, 3) := by decide +kernel
theorem b_c5_cost_4_2 : bdec cX5_cost 4 [.iconst 2, .isub] = true := by decide +kernel
theorem d_c5_cost_6 : decode cX5_cost 6 = .ok (.ireturn, 1) := by decide +kernel
def f5_cost (s0 : HM) (a0 : Nat) : Option (Int32) := obd (hcls s0 a0) (fun c3 => ogd (Nat.blt c3 12) (obd (f6_cost s0 a0) (fun v2 => some (v2 - (Int32.ofInt 2)))))
set_option maxRecDepth 100000 in
set_option maxHeartbeats 4000000 in
theorem c5_cost (l : Launch) (κ : KP) (A : Nat → Prop) (s0 : HM) (a0 : Nat) {res : Int32} (hF : f5_cost s0 a0 = some res) : Met l yX5_cost (Cond.code yX5_cost cX5_cost 1 (some .int) :: WT) (rmL 1 0 0) (PP κ A [.ref a0] (HS κ A s0)) (QQ (some (.int res)) (HS κ A s0) A) 0 0 A := by
  refine met_of (own := RX5) (by decide) rfl (Nat.le_of_ble_eq_true rfl) ?_
  intro Γ E hQ hL hR hA hent hini
  have hAA : ∀ q, A q → jA Γ q := fun q h => by rw [hA]; exact h
  have hroom : ∀ (d mL : Nat) {mc ms : Nat}, d < 1 → mL ≤ 21 → (rmL d mc ms).frames + 1 ≤ (jR Γ).frames ∧ 8 + (mL + 11) + (rmL d mc ms).locals ≤ (jR Γ).locals := fun d mL mc ms h1 h2 => by rw [hR]; exact rmL_le h1 h2
  show J Γ 1 (HS κ A s0) 0 0 0 [(0, .ref a0)] []
  unfold f5_cost at hF
  refine j_blk (pc' := 1) (lv' := [(0, .ref a0)]) (st' := [.ref a0]) E b_c5_cost_0_1 rfl ?_
  replace hF := obd_at hF
  obtain ⟨c3, hc, hF⟩ := hF
  replace hF := ogd_at hF
  obtain ⟨hc12, hF⟩ := hF
  replace hF := obd_at hF
  obtain ⟨v2, he1, hF⟩ := hF
  refine j_callx [] [] E w_RX5_7 (hroom 0 1 (by decide) (by decide)) hAA (c6_cost _ κ A _ _  he1) hc (blt_of hc12) (fun _ _ _ h _ _ => h) rfl rfl (Nat.le_of_ble_eq_true rfl) d_c5_cost_1 ⟨Nat.zero_le _, Nat.zero_le _⟩ ?_
  refine j_blk (pc' := 6) (lv' := [(0, .ref a0)]) (st' := [.int (v2 - (Int32.ofInt 2))]) E b_c5_cost_4_2 rfl ?_
  have e : res = v2 - (Int32.ofInt 2) := g_inj hF
  subst e
  exact j_iret E hQ d_c5_cost_6 (fun _ h => h)
theorem b_c6_init_0_1 : bdec cX6_init 0 [.aload_n 0] = true := by decide +kernel
theorem d_c6_init_1 : decode cX6_init 1 = .ok (.invokespecial 1, 3) := by decide +kernel
theorem b_c6_init_4_2 : bdec cX6_init 4 [.aload_n 0, .iload_n 1] = true := by decide +kernel
theorem d_c6_init_6 : decode cX6_init 6 = .ok (.putfield 7, 3) := by decide +kernel
theorem d_c6_init_9 : decode cX6_init 9 = .ok (.return_, 1) := by decide +kernel
def f6_init (s0 : HM) (a0 : Nat) (p1 : Int32) : Option (HM) := obd (hput s0 sP 0 a0 (.int p1)) (fun s1 => some s1)
set_option maxRecDepth 100000 in
set_option maxHeartbeats 4000000 in
theorem c6_init (l : Launch) (κ : KP) (A : Nat → Prop) (s0 : HM) (a0 : Nat) (p1 : Int32) {res : HM} (hF : f6_init s0 a0 p1 = some res) : Met l yX6_init (Cond.code yX6_init cX6_init 2 none :: WT) (rmL 1 0 0) (PP κ A [.ref a0, .int p1] (HS κ A s0)) (QQ none (HS κ A res) A) 0 0 A := by
  refine met_of (own := RX6) (by decide) rfl (Nat.le_of_ble_eq_true rfl) ?_
  intro Γ E hQ hL hR hA hent hini
  have hAA : ∀ q, A q → jA Γ q := fun q h => by rw [hA]; exact h
  have hroom : ∀ (d mL : Nat) {mc ms : Nat}, d < 1 → mL ≤ 21 → (rmL d mc ms).frames + 1 ≤ (jR Γ).frames ∧ 8 + (mL + 11) + (rmL d mc ms).locals ≤ (jR Γ).locals := fun d mL mc ms h1 h2 => by rw [hR]; exact rmL_le h1 h2
  show J Γ 2 (HS κ A s0) 0 0 0 [(0, .ref a0), (1, .int p1)] []
  unfold f6_init at hF
  refine j_blk (pc' := 1) (lv' := [(0, .ref a0), (1, .int p1)]) (st' := [.ref a0]) E b_c6_init_0_1 rfl ?_
  refine j_obj E ⟨m_78, m_71, m_72⟩ d_c6_init_1 (by rw [hR]; decide) (by rw [hR]; decide) ?_
  refine j_blk (pc' := 6) (lv' := [(0, .ref a0), (1, .int p1)]) (st' := [.int p1, .ref a0]) E b_c6_init_4_2 rfl ?_
  replace hF := obd_at hF
  obtain ⟨s1, es1, hF⟩ := hF
  refine j_putF E fp_RX6_7 (hini rfl) d_c6_init_6 rfl rfl es1 hAA ?_
  have e : res = s1 := g_inj hF
  subst e
  exact j_vret E hQ d_c6_init_9 (fun _ h => h)
theorem b_c8_init_0_1 : bdec cX8_init 0 [.aload_n 0] = true := by decide +kernel
theorem d_c8_init_1 : decode cX8_init 1 = .ok (.invokespecial 1, 3) := by decide +kernel
theorem b_c8_init_4_2 : bdec cX8_init 4 [.aload_n 0, .iload_n 1] = true := by decide +kernel
theorem d_c8_init_6 : decode cX8_init 6 = .ok (.putfield 7, 3) := by decide +kernel
theorem b_c8_init_9_2 : bdec cX8_init 9 [.aload_n 0, .aload_n 2] = true := by decide +kernel
theorem d_c8_init_11 : decode cX8_init 11 = .ok (.putfield 13, 3) := by decide +kernel
theorem d_c8_init_14 : decode cX8_init 14 = .ok (.return_, 1) := by decide +kernel
def f8_init (s0 : HM) (a0 : Nat) (p1 : Int32) (p2 : Nat) : Option (HM) := obd (hput s0 [8] 0 a0 (.int p1)) (fun s1 => obd (hput s1 [8] 1 a0 (.ref p2)) (fun s2 => some s2))
set_option maxRecDepth 100000 in
set_option maxHeartbeats 4000000 in
theorem c8_init (l : Launch) (κ : KP) (A : Nat → Prop) (s0 : HM) (a0 : Nat) (p1 : Int32) (p2 : Nat) {res : HM} (hF : f8_init s0 a0 p1 p2 = some res) : Met l yX8_init (Cond.code yX8_init cX8_init 3 none :: WT) (rmL 1 0 0) (PP κ A [.ref a0, .int p1, .ref p2] (HS κ A s0)) (QQ none (HS κ A res) A) 0 0 A := by
  refine met_of (own := RX8) (by decide) rfl (Nat.le_of_ble_eq_true rfl) ?_
  intro Γ E hQ hL hR hA hent hini
  have hAA : ∀ q, A q → jA Γ q := fun q h => by rw [hA]; exact h
  have hroom : ∀ (d mL : Nat) {mc ms : Nat}, d < 1 → mL ≤ 21 → (rmL d mc ms).frames + 1 ≤ (jR Γ).frames ∧ 8 + (mL + 11) + (rmL d mc ms).locals ≤ (jR Γ).locals := fun d mL mc ms h1 h2 => by rw [hR]; exact rmL_le h1 h2
  show J Γ 3 (HS κ A s0) 0 0 0 [(0, .ref a0), (1, .int p1), (2, .ref p2)] []
  unfold f8_init at hF
  refine j_blk (pc' := 1) (lv' := [(0, .ref a0), (1, .int p1), (2, .ref p2)]) (st' := [.ref a0]) E b_c8_init_0_1 rfl ?_
  refine j_obj E ⟨m_629, m_71, m_72⟩ d_c8_init_1 (by rw [hR]; decide) (by rw [hR]; decide) ?_
  refine j_blk (pc' := 6) (lv' := [(0, .ref a0), (1, .int p1), (2, .ref p2)]) (st' := [.int p1, .ref a0]) E b_c8_init_4_2 rfl ?_
  replace hF := obd_at hF
  obtain ⟨s1, es1, hF⟩ := hF
  refine j_putF E fp_RX8_7 (hini rfl) d_c8_init_6 rfl rfl es1 hAA ?_
  refine j_blk (pc' := 11) (lv' := [(0, .ref a0), (1, .int p1), (2, .ref p2)]) (st' := [.ref p2, .ref a0]) E b_c8_init_9_2 rfl ?_
  replace hF := obd_at hF
  obtain ⟨s2, es2, hF⟩ := hF
  refine j_putF E fp_RX8_13 (hini rfl) d_c8_init_11 rfl rfl es2 hAA ?_
  have e : res = s2 := g_inj hF
  subst e
  exact j_vret E hQ d_c8_init_14 (fun _ h => h)
theorem b_c8_at_0_3 : bdec cX8_at 0 [.aload_n 0, .iload_n 1, .iconst 1] = true := by decide +kernel
theorem d_c8_at_3 : decode cX8_at 3 = .ok (.invokevirtual 17, 3) := by decide +kernel
theorem d_c8_at_6 : decode cX8_at 6 = .ok (.ifCond .eq 12, 3) := by decide +kernel
theorem b_c8_at_18_1 : bdec cX8_at 18 [.iconst (-1)] = true := by decide +kernel
theorem d_c8_at_19 : decode cX8_at 19 = .ok (.ireturn, 1) := by decide +kernel
theorem b_c8_at_9_1 : bdec cX8_at 9 [.aload_n 0] = true := by decide +kernel
theorem d_c8_at_10 : decode cX8_at 10 = .ok (.getfield 13, 3) := by decide +kernel
theorem b_c8_at_13_1 : bdec cX8_at 13 [.iload_n 1] = true := by decide +kernel
theorem d_c8_at_14 : decode cX8_at 14 = .ok (.iaload, 1) := by decide +kernel
theorem d_c8_at_15 : decode cX8_at 15 = .ok (.goto 4, 3) := by decide +kernel
def f8_at (s0 : HM) (a0 : Nat) (p1 : Int32) : Option (Int32) := ocl s0 a0 8 (obd (f8_hasPlaces s0 a0 p1 (Int32.ofInt 1)) (fun v2 => if v2 = 0 then (some (Int32.ofInt (-1))) else (obd (hfld s0 [8] 1 a0) (fun v4 => orf v4 (fun b5 => obd (hald s0 b5 p1) (fun v6 => some v6))))))
set_option maxRecDepth 100000 in
set_option maxHeartbeats 4000000 in
theorem c8_at (l : Launch) (κ : KP) (A : Nat → Prop) (s0 : HM) (a0 : Nat) (p1 : Int32) {res : Int32} (hF : f8_at s0 a0 p1 = some res) : Met l yX8_at (Cond.code yX8_at cX8_at 2 (some .int) :: WT) (rmL 1 0 0) (PP κ A [.ref a0, .int p1] (HS κ A s0)) (QQ (some (.int res)) (HS κ A s0) A) 0 0 A := by
  refine met_of (own := RX8) (by decide) rfl (Nat.le_of_ble_eq_true rfl) ?_
  intro Γ E hQ hL hR hA hent hini
  have hAA : ∀ q, A q → jA Γ q := fun q h => by rw [hA]; exact h
  have hroom : ∀ (d mL : Nat) {mc ms : Nat}, d < 1 → mL ≤ 21 → (rmL d mc ms).frames + 1 ≤ (jR Γ).frames ∧ 8 + (mL + 11) + (rmL d mc ms).locals ≤ (jR Γ).locals := fun d mL mc ms h1 h2 => by rw [hR]; exact rmL_le h1 h2
  show J Γ 2 (HS κ A s0) 0 0 0 [(0, .ref a0), (1, .int p1)] []
  unfold f8_at at hF
  refine j_blk (pc' := 3) (lv' := [(0, .ref a0), (1, .int p1)]) (st' := [.int (Int32.ofInt 1), .int p1, .ref a0]) E b_c8_at_0_3 rfl ?_
  replace hF := ocl_at hF
  obtain ⟨hc, hF⟩ := hF
  replace hF := obd_at hF
  obtain ⟨v2, he1, hF⟩ := hF
  refine j_callv [.int p1, .int (Int32.ofInt 1)] [] E w_RX8_17 (hroom 0 3 (by decide) (by decide)) hAA (c8_hasPlaces _ κ A _ _ _ _  he1) (fun _ h => h) (fun _ _ _ h _ _ => h) (fun _ h => j_recv E h hc rfl) rfl rfl (Nat.le_of_ble_eq_true rfl) d_c8_at_3 ⟨Nat.zero_le _, Nat.zero_le _⟩ ?_
  refine j_if_eq (tgt := 18) E d_c8_at_6 (by decide) (fun h3 => ?_) (fun h3 => ?_)
  · replace hF := g_t hF h3
    refine j_blk (pc' := 19) (lv' := [(0, .ref a0), (1, .int p1)]) (st' := [.int (Int32.ofInt (-1))]) E b_c8_at_18_1 rfl ?_
    have e : res = Int32.ofInt (-1) := g_inj hF
    subst e
    exact j_iret E hQ d_c8_at_19 (fun _ h => h)
  · replace hF := g_f hF h3
    refine j_blk (pc' := 10) (lv' := [(0, .ref a0), (1, .int p1)]) (st' := [.ref a0]) E b_c8_at_9_1 rfl ?_
    replace hF := obd_at hF
    obtain ⟨v4, ev4, hF⟩ := hF
    refine j_getf E fg_RX8_13 d_c8_at_10 ev4 ?_
    refine j_blk (pc' := 14) (lv' := [(0, .ref a0), (1, .int p1)]) (st' := [.int p1, v4]) E b_c8_at_13_1 rfl ?_
    replace hF := orf_at hF
    obtain ⟨b5, rfl, hF⟩ := hF
    replace hF := obd_at hF
    obtain ⟨v6, ev6, hF⟩ := hF
    refine j_iald E d_c8_at_14 ev6 ?_
    refine j_goto (tgt := 19) E d_c8_at_15 (by decide) ?_
    have e : res = v6 := g_inj hF
    subst e
    exact j_iret E hQ d_c8_at_19 (fun _ h => h)
theorem b_c8_change_0_3 : bdec cX8_change 0 [.aload_n 0, .iload_n 1, .iconst 1] = true := by decide +kernel
theorem d_c8_change_3 : decode cX8_change 3 = .ok (.invokevirtual 17, 3) := by decide +kernel
theorem d_c8_change_6 : decode cX8_change 6 = .ok (.ifCond .ne 4, 3) := by decide +kernel
theorem b_c8_change_10_1 : bdec cX8_change 10 [.aload_n 0] = true := by decide +kernel
theorem d_c8_change_11 : decode cX8_change 11 = .ok (.getfield 7, 3) := by decide +kernel
theorem d_c8_change_14 : decode cX8_change 14 = .ok (.lookupswitch 48 #[(0, 26), (1, 37)], 26) := by decide +kernel
theorem b_c8_change_40_1 : bdec cX8_change 40 [.aload_n 0] = true := by decide +kernel
theorem d_c8_change_41 : decode cX8_change 41 = .ok (.getfield 13, 3) := by decide +kernel
theorem b_c8_change_44_3 : bdec cX8_change 44 [.iload_n 1, .iload_n 2, .i2b] = true := by decide +kernel
theorem d_c8_change_47 : decode cX8_change 47 = .ok (.iastore, 1) := by decide +kernel
theorem d_c8_change_48 : decode cX8_change 48 = .ok (.goto 21, 3) := by decide +kernel
theorem d_c8_change_69 : decode cX8_change 69 = .ok (.return_, 1) := by decide +kernel
theorem b_c8_change_51_1 : bdec cX8_change 51 [.aload_n 0] = true := by decide +kernel
theorem d_c8_change_52 : decode cX8_change 52 = .ok (.getfield 13, 3) := by decide +kernel
theorem b_c8_change_55_3 : bdec cX8_change 55 [.iload_n 1, .iload_n 2, .i2s] = true := by decide +kernel
theorem d_c8_change_58 : decode cX8_change 58 = .ok (.iastore, 1) := by decide +kernel
theorem d_c8_change_59 : decode cX8_change 59 = .ok (.goto 10, 3) := by decide +kernel
theorem b_c8_change_62_1 : bdec cX8_change 62 [.aload_n 0] = true := by decide +kernel
theorem d_c8_change_63 : decode cX8_change 63 = .ok (.getfield 13, 3) := by decide +kernel
theorem b_c8_change_66_2 : bdec cX8_change 66 [.iload_n 1, .iload_n 2] = true := by decide +kernel
theorem d_c8_change_68 : decode cX8_change 68 = .ok (.iastore, 1) := by decide +kernel
theorem d_c8_change_9 : decode cX8_change 9 = .ok (.return_, 1) := by decide +kernel
def f8_change (s0 : HM) (a0 : Nat) (p1 : Int32) (p2 : Int32) : Option (HM) := ocl s0 a0 8 (obd (f8_hasPlaces s0 a0 p1 (Int32.ofInt 1)) (fun v2 => if v2 = 0 then (some s0) else (obd (hfi s0 [8] 0 a0) (fun v4 => if v4 = 0 then (obd (hfld s0 [8] 1 a0) (fun v6 => orf v6 (fun b7 => obd (hast s0 b7 p1 p2.toInt8.toInt32) (fun s8 => some s8)))) else (if v4 = 1 then (obd (hfld s0 [8] 1 a0) (fun v10 => orf v10 (fun b11 => obd (hast s0 b11 p1 p2.toInt16.toInt32) (fun s12 => some s12)))) else (obd (hfld s0 [8] 1 a0) (fun v13 => orf v13 (fun b14 => obd (hast s0 b14 p1 p2) (fun s15 => some s15)))))))))
set_option maxRecDepth 100000 in
set_option maxHeartbeats 4000000 in
theorem c8_change (l : Launch) (κ : KP) (A : Nat → Prop) (s0 : HM) (a0 : Nat) (p1 : Int32) (p2 : Int32) {res : HM} (hF : f8_change s0 a0 p1 p2 = some res) : Met l yX8_change (Cond.code yX8_change cX8_change 3 none :: WT) (rmL 1 0 0) (PP κ A [.ref a0, .int p1, .int p2] (HS κ A s0)) (QQ none (HS κ A res) A) 0 0 A := by
  refine met_of (own := RX8) (by decide) rfl (Nat.le_of_ble_eq_true rfl) ?_
  intro Γ E hQ hL hR hA hent hini
  have hAA : ∀ q, A q → jA Γ q := fun q h => by rw [hA]; exact h
  have hroom : ∀ (d mL : Nat) {mc ms : Nat}, d < 1 → mL ≤ 21 → (rmL d mc ms).frames + 1 ≤ (jR Γ).frames ∧ 8 + (mL + 11) + (rmL d mc ms).locals ≤ (jR Γ).locals := fun d mL mc ms h1 h2 => by rw [hR]; exact rmL_le h1 h2
  show J Γ 3 (HS κ A s0) 0 0 0 [(0, .ref a0), (1, .int p1), (2, .int p2)] []
  unfold f8_change at hF
  refine j_blk (pc' := 3) (lv' := [(0, .ref a0), (1, .int p1), (2, .int p2)]) (st' := [.int (Int32.ofInt 1), .int p1, .ref a0]) E b_c8_change_0_3 rfl ?_
  replace hF := ocl_at hF
  obtain ⟨hc, hF⟩ := hF
  replace hF := obd_at hF
  obtain ⟨v2, he1, hF⟩ := hF
  refine j_callv [.int p1, .int (Int32.ofInt 1)] [] E w_RX8_17 (hroom 0 3 (by decide) (by decide)) hAA (c8_hasPlaces _ κ A _ _ _ _  he1) (fun _ h => h) (fun _ _ _ h _ _ => h) (fun _ h => j_recv E h hc rfl) rfl rfl (Nat.le_of_ble_eq_true rfl) d_c8_change_3 ⟨Nat.zero_le _, Nat.zero_le _⟩ ?_
  refine j_if_ne (tgt := 10) E d_c8_change_6 (by decide) (fun h3 => ?_) (fun h3 => ?_)
  · replace hF := g_f hF h3
    refine j_blk (pc' := 11) (lv' := [(0, .ref a0), (1, .int p1), (2, .int p2)]) (st' := [.ref a0]) E b_c8_change_10_1 rfl ?_
    replace hF := obd_at hF
    obtain ⟨v4, ev4, hF⟩ := hF
    refine j_getI E fg_RX8_7 d_c8_change_11 ev4 ?_
    rcases Decidable.em (v4 = 0) with h5 | h5
    · replace hF := g_t hF h5
      refine j_lkp (tgt := 40) (off := 26) E d_c8_change_14 (by decide) (by rw [h5]; decide) (by decide) ?_
      refine j_blk (pc' := 41) (lv' := [(0, .ref a0), (1, .int p1), (2, .int p2)]) (st' := [.ref a0]) E b_c8_change_40_1 rfl ?_
      replace hF := obd_at hF
      obtain ⟨v6, ev6, hF⟩ := hF
      refine j_getf E fg_RX8_13 d_c8_change_41 ev6 ?_
      refine j_blk (pc' := 47) (lv' := [(0, .ref a0), (1, .int p1), (2, .int p2)]) (st' := [.int p2.toInt8.toInt32, .int p1, v6]) E b_c8_change_44_3 rfl ?_
      replace hF := orf_at hF
      obtain ⟨b7, rfl, hF⟩ := hF
      replace hF := obd_at hF
      obtain ⟨s8, es8, hF⟩ := hF
      refine j_iast E d_c8_change_47 es8 hAA ?_
      refine j_goto (tgt := 69) E d_c8_change_48 (by decide) ?_
      have e : res = s8 := g_inj hF
      subst e
      exact j_vret E hQ d_c8_change_69 (fun _ h => h)
    · replace hF := g_f hF h5
      rcases Decidable.em (v4 = 1) with h9 | h9
      · replace hF := g_t hF h9
        refine j_lkp (tgt := 51) (off := 37) E d_c8_change_14 (by decide) (by rw [h9]; decide) (by decide) ?_
        refine j_blk (pc' := 52) (lv' := [(0, .ref a0), (1, .int p1), (2, .int p2)]) (st' := [.ref a0]) E b_c8_change_51_1 rfl ?_
        replace hF := obd_at hF
        obtain ⟨v10, ev10, hF⟩ := hF
        refine j_getf E fg_RX8_13 d_c8_change_52 ev10 ?_
        refine j_blk (pc' := 58) (lv' := [(0, .ref a0), (1, .int p1), (2, .int p2)]) (st' := [.int p2.toInt16.toInt32, .int p1, v10]) E b_c8_change_55_3 rfl ?_
        replace hF := orf_at hF
        obtain ⟨b11, rfl, hF⟩ := hF
        replace hF := obd_at hF
        obtain ⟨s12, es12, hF⟩ := hF
        refine j_iast E d_c8_change_58 es12 hAA ?_
        refine j_goto (tgt := 69) E d_c8_change_59 (by decide) ?_
        have e : res = s12 := g_inj hF
        subst e
        exact j_vret E hQ d_c8_change_69 (fun _ h => h)
      · replace hF := g_f hF h9
        refine j_lkp (tgt := 62) (off := 48) E d_c8_change_14 (by decide) ((lv_osw h5 (by decide)).trans ((lv_osw h9 (by decide)).trans rfl)) (by decide) ?_
        refine j_blk (pc' := 63) (lv' := [(0, .ref a0), (1, .int p1), (2, .int p2)]) (st' := [.ref a0]) E b_c8_change_62_1 rfl ?_
        replace hF := obd_at hF
        obtain ⟨v13, ev13, hF⟩ := hF
        refine j_getf E fg_RX8_13 d_c8_change_63 ev13 ?_
        refine j_blk (pc' := 68) (lv' := [(0, .ref a0), (1, .int p1), (2, .int p2)]) (st' := [.int p2, .int p1, v13]) E b_c8_change_66_2 rfl ?_
        replace hF := orf_at hF
        obtain ⟨b14, rfl, hF⟩ := hF
        replace hF := obd_at hF
        obtain ⟨s15, es15, hF⟩ := hF
        refine j_iast E d_c8_change_68 es15 hAA ?_
        have e : res = s15 := g_inj hF
        subst e
        exact j_vret E hQ d_c8_change_69 (fun _ h => h)
  · replace hF := g_t hF h3
    have e : res = s0 := g_inj hF
    subst e
    exact j_vret E hQ d_c8_change_9 (fun _ h => h)
theorem b_c9_countsWith_0_2 : bdec cX9_countsWith 0 [.aload_n 0, .iload_n 1] = true := by decide +kernel
theorem d_c9_countsWith_2 : decode cX9_countsWith 2 = .ok (.invokespecial 11, 3) := by decide +kernel
theorem d_c9_countsWith_5 : decode cX9_countsWith 5 = .ok (.ifCond .ne 10, 3) := by decide +kernel
theorem b_c9_countsWith_15_1 : bdec cX9_countsWith 15 [.iconst 1] = true := by decide +kernel
theorem d_c9_countsWith_16 : decode cX9_countsWith 16 = .ok (.goto 4, 3) := by decide +kernel
theorem d_c9_countsWith_20 : decode cX9_countsWith 20 = .ok (.ireturn, 1) := by decide +kernel
theorem b_c9_countsWith_8_2 : bdec cX9_countsWith 8 [.iload_n 1, .iconst 2] = true := by decide +kernel
theorem d_c9_countsWith_10 : decode cX9_countsWith 10 = .ok (.irem, 1) := by decide +kernel
theorem b_c9_countsWith_11_1 : bdec cX9_countsWith 11 [.iconst 1] = true := by decide +kernel
theorem d_c9_countsWith_12 : decode cX9_countsWith 12 = .ok (.if_icmp .ne 7, 3) := by decide +kernel
theorem b_c9_countsWith_19_1 : bdec cX9_countsWith 19 [.iconst 0] = true := by decide +kernel
def f9_countsWith (s0 : HM) (a0 : Nat) (p1 : Int32) : Option (Int32) := obd (hcls s0 a0) (fun c3 => ogd (Nat.blt c3 12) (obd (f4_countsWith s0 a0 p1) (fun v2 => if v2 = 0 then (onz (Int32.ofInt 2) (if (p1 - p1 / (Int32.ofInt 2) * (Int32.ofInt 2)) = (Int32.ofInt 1) then (some (Int32.ofInt 1)) else (some (Int32.ofInt 0)))) else (some (Int32.ofInt 1)))))
set_option maxRecDepth 100000 in
set_option maxHeartbeats 4000000 in
theorem c9_countsWith (l : Launch) (κ : KP) (A : Nat → Prop) (s0 : HM) (a0 : Nat) (p1 : Int32) {res : Int32} (hF : f9_countsWith s0 a0 p1 = some res) : Met l yX9_countsWith (Cond.code yX9_countsWith cX9_countsWith 2 (some .boolean) :: WT) (rmL 1 0 0) (PP κ A [.ref a0, .int p1] (HS κ A s0)) (QQ (some (.int res)) (HS κ A s0) A) 0 0 A := by
  refine met_of (own := RX9) (by decide) rfl (Nat.le_of_ble_eq_true rfl) ?_
  intro Γ E hQ hL hR hA hent hini
  have hAA : ∀ q, A q → jA Γ q := fun q h => by rw [hA]; exact h
  have hroom : ∀ (d mL : Nat) {mc ms : Nat}, d < 1 → mL ≤ 21 → (rmL d mc ms).frames + 1 ≤ (jR Γ).frames ∧ 8 + (mL + 11) + (rmL d mc ms).locals ≤ (jR Γ).locals := fun d mL mc ms h1 h2 => by rw [hR]; exact rmL_le h1 h2
  show J Γ 2 (HS κ A s0) 0 0 0 [(0, .ref a0), (1, .int p1)] []
  unfold f9_countsWith at hF
  refine j_blk (pc' := 2) (lv' := [(0, .ref a0), (1, .int p1)]) (st' := [.int p1, .ref a0]) E b_c9_countsWith_0_2 rfl ?_
  replace hF := obd_at hF
  obtain ⟨c3, hc, hF⟩ := hF
  replace hF := ogd_at hF
  obtain ⟨hc12, hF⟩ := hF
  replace hF := obd_at hF
  obtain ⟨v2, he1, hF⟩ := hF
  refine j_callx [.int p1] [] E w_RX9_11 (hroom 0 2 (by decide) (by decide)) hAA (c4_countsWith _ κ A _ _ _  he1) hc (blt_of hc12) (fun _ _ _ h _ _ => h) rfl rfl (Nat.le_of_ble_eq_true rfl) d_c9_countsWith_2 ⟨Nat.zero_le _, Nat.zero_le _⟩ ?_
  refine j_if_ne (tgt := 15) E d_c9_countsWith_5 (by decide) (fun h4 => ?_) (fun h4 => ?_)
  · replace hF := g_f hF h4
    refine j_blk (pc' := 16) (lv' := [(0, .ref a0), (1, .int p1)]) (st' := [.int (Int32.ofInt 1)]) E b_c9_countsWith_15_1 rfl ?_
    refine j_goto (tgt := 20) E d_c9_countsWith_16 (by decide) ?_
    have e : res = Int32.ofInt 1 := g_inj hF
    subst e
    exact j_zret E hQ nb_1 d_c9_countsWith_20 (fun _ h => h)
  · replace hF := g_t hF h4
    refine j_blk (pc' := 10) (lv' := [(0, .ref a0), (1, .int p1)]) (st' := [.int (Int32.ofInt 2), .int p1]) E b_c9_countsWith_8_2 rfl ?_
    replace hF := onz_at hF
    obtain ⟨h0, hF⟩ := hF
    refine j_irem E d_c9_countsWith_10 h0 ?_
    refine j_blk (pc' := 12) (lv' := [(0, .ref a0), (1, .int p1)]) (st' := [.int (Int32.ofInt 1), .int (p1 - p1 / (Int32.ofInt 2) * (Int32.ofInt 2))]) E b_c9_countsWith_11_1 rfl ?_
    refine j_icmp_ne (tgt := 19) E d_c9_countsWith_12 (by decide) (fun h5 => ?_) (fun h5 => ?_)
    · replace hF := g_f hF h5
      refine j_blk (pc' := 20) (lv' := [(0, .ref a0), (1, .int p1)]) (st' := [.int (Int32.ofInt 0)]) E b_c9_countsWith_19_1 rfl ?_
      have e : res = Int32.ofInt 0 := g_inj hF
      subst e
      exact j_zret E hQ nb_0 d_c9_countsWith_20 (fun _ h => h)
    · replace hF := g_t hF h5
      refine j_blk (pc' := 16) (lv' := [(0, .ref a0), (1, .int p1)]) (st' := [.int (Int32.ofInt 1)]) E b_c9_countsWith_15_1 rfl ?_
      refine j_goto (tgt := 20) E d_c9_countsWith_16 (by decide) ?_
      have e : res = Int32.ofInt 1 := g_inj hF
      subst e
      exact j_zret E hQ nb_1 d_c9_countsWith_20 (fun _ h => h)
theorem b_c0_init_0_2 : bdec cX0_init 0 [.aload_n 0, .iload_n 1] = true := by decide +kernel
theorem d_c0_init_2 : decode cX0_init 2 = .ok (.invokespecial 1, 3) := by decide +kernel
theorem d_c0_init_5 : decode cX0_init 5 = .ok (.return_, 1) := by decide +kernel
def f0_init (s0 : HM) (a0 : Nat) (p1 : Int32) : Option (HM) := obd (f6_init s0 a0 p1) (fun s2 => some s2)
set_option maxRecDepth 100000 in
set_option maxHeartbeats 4000000 in
theorem c0_init (l : Launch) (κ : KP) (A : Nat → Prop) (s0 : HM) (a0 : Nat) (p1 : Int32) {res : HM} (hF : f0_init s0 a0 p1 = some res) : Met l yX0_init (Cond.code yX0_init cX0_init 2 none :: WT) (rmL 2 0 0) (PP κ A [.ref a0, .int p1] (HS κ A s0)) (QQ none (HS κ A res) A) 0 0 A := by
  refine met_of (own := RX0) (by decide) rfl (Nat.le_of_ble_eq_true rfl) ?_
  intro Γ E hQ hL hR hA hent hini
  have hAA : ∀ q, A q → jA Γ q := fun q h => by rw [hA]; exact h
  have hroom : ∀ (d mL : Nat) {mc ms : Nat}, d < 2 → mL ≤ 21 → (rmL d mc ms).frames + 1 ≤ (jR Γ).frames ∧ 8 + (mL + 11) + (rmL d mc ms).locals ≤ (jR Γ).locals := fun d mL mc ms h1 h2 => by rw [hR]; exact rmL_le h1 h2
  show J Γ 2 (HS κ A s0) 0 0 0 [(0, .ref a0), (1, .int p1)] []
  unfold f0_init at hF
  refine j_blk (pc' := 2) (lv' := [(0, .ref a0), (1, .int p1)]) (st' := [.int p1, .ref a0]) E b_c0_init_0_2 rfl ?_
  replace hF := obd_at hF
  obtain ⟨s2, he1, hF⟩ := hF
  refine j_calli [.int p1] [] E w_RX0_1 (hroom 1 2 (by decide) (by decide)) hAA (c6_init _ κ A _ _ _  he1) (fun _ h => h) (fun _ _ _ h _ _ => h) rfl rfl (Nat.le_of_ble_eq_true rfl) d_c0_init_2 ⟨Nat.zero_le _, Nat.zero_le _⟩ ?_
  have e : res = s2 := g_inj hF
  subst e
  exact j_vret E hQ d_c0_init_5 (fun _ h => h)
theorem b_c1_init_0_2 : bdec cX1_init 0 [.aload_n 0, .iload_n 1] = true := by decide +kernel
theorem d_c1_init_2 : decode cX1_init 2 = .ok (.invokespecial 1, 3) := by decide +kernel
theorem d_c1_init_5 : decode cX1_init 5 = .ok (.return_, 1) := by decide +kernel
def f1_init (s0 : HM) (a0 : Nat) (p1 : Int32) : Option (HM) := obd (f6_init s0 a0 p1) (fun s2 => some s2)
set_option maxRecDepth 100000 in
set_option maxHeartbeats 4000000 in
theorem c1_init (l : Launch) (κ : KP) (A : Nat → Prop) (s0 : HM) (a0 : Nat) (p1 : Int32) {res : HM} (hF : f1_init s0 a0 p1 = some res) : Met l yX1_init (Cond.code yX1_init cX1_init 2 none :: WT) (rmL 2 0 0) (PP κ A [.ref a0, .int p1] (HS κ A s0)) (QQ none (HS κ A res) A) 0 0 A := by
  refine met_of (own := RX1) (by decide) rfl (Nat.le_of_ble_eq_true rfl) ?_
  intro Γ E hQ hL hR hA hent hini
  have hAA : ∀ q, A q → jA Γ q := fun q h => by rw [hA]; exact h
  have hroom : ∀ (d mL : Nat) {mc ms : Nat}, d < 2 → mL ≤ 21 → (rmL d mc ms).frames + 1 ≤ (jR Γ).frames ∧ 8 + (mL + 11) + (rmL d mc ms).locals ≤ (jR Γ).locals := fun d mL mc ms h1 h2 => by rw [hR]; exact rmL_le h1 h2
  show J Γ 2 (HS κ A s0) 0 0 0 [(0, .ref a0), (1, .int p1)] []
  unfold f1_init at hF
  refine j_blk (pc' := 2) (lv' := [(0, .ref a0), (1, .int p1)]) (st' := [.int p1, .ref a0]) E b_c1_init_0_2 rfl ?_
  replace hF := obd_at hF
  obtain ⟨s2, he1, hF⟩ := hF
  refine j_calli [.int p1] [] E w_RX1_1 (hroom 1 2 (by decide) (by decide)) hAA (c6_init _ κ A _ _ _  he1) (fun _ h => h) (fun _ _ _ h _ _ => h) rfl rfl (Nat.le_of_ble_eq_true rfl) d_c1_init_2 ⟨Nat.zero_le _, Nat.zero_le _⟩ ?_
  have e : res = s2 := g_inj hF
  subst e
  exact j_vret E hQ d_c1_init_5 (fun _ h => h)
theorem b_c3_cost_0_1 : bdec cX3_cost 0 [.aload_n 0] = true := by decide +kernel
theorem d_c3_cost_1 : decode cX3_cost 1 = .ok (.invokespecial 13, 3) := by decide +kernel
theorem b_c3_cost_4_1 : bdec cX3_cost 4 [.aload_n 0] = true := by decide +kernel
theorem d_c3_cost_5 : decode cX3_cost 5 = .ok (.getfield 7, 3) := by decide +kernel
theorem b_c3_cost_8_3 : bdec cX3_cost 8 [.iconst 1, .iadd, .imul] = true := by decide +kernel
theorem d_c3_cost_11 : decode cX3_cost 11 = .ok (.ireturn, 1) := by decide +kernel
def f3_cost (s0 : HM) (a0 : Nat) : Option (Int32) := obd (hcls s0 a0) (fun c3 => ogd (Nat.blt c3 12) (obd (f5_cost s0 a0) (fun v2 => obd (hfi s0 sP 0 a0) (fun v4 => some (v2 * (v4 + (Int32.ofInt 1)))))))
set_option maxRecDepth 100000 in
set_option maxHeartbeats 4000000 in
theorem c3_cost (l : Launch) (κ : KP) (A : Nat → Prop) (s0 : HM) (a0 : Nat) {res : Int32} (hF : f3_cost s0 a0 = some res) : Met l yX3_cost (Cond.code yX3_cost cX3_cost 1 (some .int) :: WT) (rmL 2 0 0) (PP κ A [.ref a0] (HS κ A s0)) (QQ (some (.int res)) (HS κ A s0) A) 0 0 A := by
  refine met_of (own := RX3) (by decide) rfl (Nat.le_of_ble_eq_true rfl) ?_
  intro Γ E hQ hL hR hA hent hini
  have hAA : ∀ q, A q → jA Γ q := fun q h => by rw [hA]; exact h
  have hroom : ∀ (d mL : Nat) {mc ms : Nat}, d < 2 → mL ≤ 21 → (rmL d mc ms).frames + 1 ≤ (jR Γ).frames ∧ 8 + (mL + 11) + (rmL d mc ms).locals ≤ (jR Γ).locals := fun d mL mc ms h1 h2 => by rw [hR]; exact rmL_le h1 h2
  show J Γ 1 (HS κ A s0) 0 0 0 [(0, .ref a0)] []
  unfold f3_cost at hF
  refine j_blk (pc' := 1) (lv' := [(0, .ref a0)]) (st' := [.ref a0]) E b_c3_cost_0_1 rfl ?_
  replace hF := obd_at hF
  obtain ⟨c3, hc, hF⟩ := hF
  replace hF := ogd_at hF
  obtain ⟨hc12, hF⟩ := hF
  replace hF := obd_at hF
  obtain ⟨v2, he1, hF⟩ := hF
  refine j_callx [] [] E w_RX3_13 (hroom 1 1 (by decide) (by decide)) hAA (c5_cost _ κ A _ _  he1) hc (blt_of hc12) (fun _ _ _ h _ _ => h) rfl rfl (Nat.le_of_ble_eq_true rfl) d_c3_cost_1 ⟨Nat.zero_le _, Nat.zero_le _⟩ ?_
  refine j_blk (pc' := 5) (lv' := [(0, .ref a0)]) (st' := [.ref a0, .int v2]) E b_c3_cost_4_1 rfl ?_
  replace hF := obd_at hF
  obtain ⟨v4, ev4, hF⟩ := hF
  refine j_getI E fg_RX3_7 d_c3_cost_5 ev4 ?_
  refine j_blk (pc' := 11) (lv' := [(0, .ref a0)]) (st' := [.int (v2 * (v4 + (Int32.ofInt 1)))]) E b_c3_cost_8_3 rfl ?_
  have e : res = v2 * (v4 + (Int32.ofInt 1)) := g_inj hF
  subst e
  exact j_iret E hQ d_c3_cost_11 (fun _ h => h)
theorem b_c4_init_0_2 : bdec cX4_init 0 [.aload_n 0, .iload_n 1] = true := by decide +kernel
theorem d_c4_init_2 : decode cX4_init 2 = .ok (.invokespecial 1, 3) := by decide +kernel
theorem d_c4_init_5 : decode cX4_init 5 = .ok (.return_, 1) := by decide +kernel
def f4_init (s0 : HM) (a0 : Nat) (p1 : Int32) : Option (HM) := obd (f6_init s0 a0 p1) (fun s2 => some s2)
set_option maxRecDepth 100000 in
set_option maxHeartbeats 4000000 in
theorem c4_init (l : Launch) (κ : KP) (A : Nat → Prop) (s0 : HM) (a0 : Nat) (p1 : Int32) {res : HM} (hF : f4_init s0 a0 p1 = some res) : Met l yX4_init (Cond.code yX4_init cX4_init 2 none :: WT) (rmL 2 0 0) (PP κ A [.ref a0, .int p1] (HS κ A s0)) (QQ none (HS κ A res) A) 0 0 A := by
  refine met_of (own := RX4) (by decide) rfl (Nat.le_of_ble_eq_true rfl) ?_
  intro Γ E hQ hL hR hA hent hini
  have hAA : ∀ q, A q → jA Γ q := fun q h => by rw [hA]; exact h
  have hroom : ∀ (d mL : Nat) {mc ms : Nat}, d < 2 → mL ≤ 21 → (rmL d mc ms).frames + 1 ≤ (jR Γ).frames ∧ 8 + (mL + 11) + (rmL d mc ms).locals ≤ (jR Γ).locals := fun d mL mc ms h1 h2 => by rw [hR]; exact rmL_le h1 h2
  show J Γ 2 (HS κ A s0) 0 0 0 [(0, .ref a0), (1, .int p1)] []
  unfold f4_init at hF
  refine j_blk (pc' := 2) (lv' := [(0, .ref a0), (1, .int p1)]) (st' := [.int p1, .ref a0]) E b_c4_init_0_2 rfl ?_
  replace hF := obd_at hF
  obtain ⟨s2, he1, hF⟩ := hF
  refine j_calli [.int p1] [] E w_RX4_1 (hroom 1 2 (by decide) (by decide)) hAA (c6_init _ κ A _ _ _  he1) (fun _ h => h) (fun _ _ _ h _ _ => h) rfl rfl (Nat.le_of_ble_eq_true rfl) d_c4_init_2 ⟨Nat.zero_le _, Nat.zero_le _⟩ ?_
  have e : res = s2 := g_inj hF
  subst e
  exact j_vret E hQ d_c4_init_5 (fun _ h => h)
theorem b_c5_init_0_2 : bdec cX5_init 0 [.aload_n 0, .iload_n 1] = true := by decide +kernel
theorem d_c5_init_2 : decode cX5_init 2 = .ok (.invokespecial 1, 3) := by decide +kernel
theorem d_c5_init_5 : decode cX5_init 5 = .ok (.return_, 1) := by decide +kernel
def f5_init (s0 : HM) (a0 : Nat) (p1 : Int32) : Option (HM) := obd (f6_init s0 a0 p1) (fun s2 => some s2)
set_option maxRecDepth 100000 in
set_option maxHeartbeats 4000000 in
theorem c5_init (l : Launch) (κ : KP) (A : Nat → Prop) (s0 : HM) (a0 : Nat) (p1 : Int32) {res : HM} (hF : f5_init s0 a0 p1 = some res) : Met l yX5_init (Cond.code yX5_init cX5_init 2 none :: WT) (rmL 2 0 0) (PP κ A [.ref a0, .int p1] (HS κ A s0)) (QQ none (HS κ A res) A) 0 0 A := by
  refine met_of (own := RX5) (by decide) rfl (Nat.le_of_ble_eq_true rfl) ?_
  intro Γ E hQ hL hR hA hent hini
  have hAA : ∀ q, A q → jA Γ q := fun q h => by rw [hA]; exact h
  have hroom : ∀ (d mL : Nat) {mc ms : Nat}, d < 2 → mL ≤ 21 → (rmL d mc ms).frames + 1 ≤ (jR Γ).frames ∧ 8 + (mL + 11) + (rmL d mc ms).locals ≤ (jR Γ).locals := fun d mL mc ms h1 h2 => by rw [hR]; exact rmL_le h1 h2
  show J Γ 2 (HS κ A s0) 0 0 0 [(0, .ref a0), (1, .int p1)] []
  unfold f5_init at hF
  refine j_blk (pc' := 2) (lv' := [(0, .ref a0), (1, .int p1)]) (st' := [.int p1, .ref a0]) E b_c5_init_0_2 rfl ?_
  replace hF := obd_at hF
  obtain ⟨s2, he1, hF⟩ := hF
  refine j_calli [.int p1] [] E w_RX5_1 (hroom 1 2 (by decide) (by decide)) hAA (c6_init _ κ A _ _ _  he1) (fun _ h => h) (fun _ _ _ h _ _ => h) rfl rfl (Nat.le_of_ble_eq_true rfl) d_c5_init_2 ⟨Nat.zero_le _, Nat.zero_le _⟩ ?_
  have e : res = s2 := g_inj hF
  subst e
  exact j_vret E hQ d_c5_init_5 (fun _ h => h)
theorem b_c7_cost_0_1 : bdec cX7_cost 0 [.aload_n 0] = true := by decide +kernel
theorem d_c7_cost_1 : decode cX7_cost 1 = .ok (.invokespecial 7, 3) := by decide +kernel
theorem b_c7_cost_4_2 : bdec cX7_cost 4 [.iconst 5, .iadd] = true := by decide +kernel
theorem d_c7_cost_6 : decode cX7_cost 6 = .ok (.ireturn, 1) := by decide +kernel
def f7_cost (s0 : HM) (a0 : Nat) : Option (Int32) := obd (hcls s0 a0) (fun c3 => ogd (Nat.blt c3 12) (obd (f1_cost s0 a0) (fun v2 => some (v2 + (Int32.ofInt 5)))))
set_option maxRecDepth 100000 in
set_option maxHeartbeats 4000000 in
theorem c7_cost (l : Launch) (κ : KP) (A : Nat → Prop) (s0 : HM) (a0 : Nat) {res : Int32} (hF : f7_cost s0 a0 = some res) : Met l yX7_cost (Cond.code yX7_cost cX7_cost 1 (some .int) :: WT) (rmL 2 0 0) (PP κ A [.ref a0] (HS κ A s0)) (QQ (some (.int res)) (HS κ A s0) A) 0 0 A := by
  refine met_of (own := RX7) (by decide) rfl (Nat.le_of_ble_eq_true rfl) ?_
  intro Γ E hQ hL hR hA hent hini
  have hAA : ∀ q, A q → jA Γ q := fun q h => by rw [hA]; exact h
  have hroom : ∀ (d mL : Nat) {mc ms : Nat}, d < 2 → mL ≤ 21 → (rmL d mc ms).frames + 1 ≤ (jR Γ).frames ∧ 8 + (mL + 11) + (rmL d mc ms).locals ≤ (jR Γ).locals := fun d mL mc ms h1 h2 => by rw [hR]; exact rmL_le h1 h2
  show J Γ 1 (HS κ A s0) 0 0 0 [(0, .ref a0)] []
  unfold f7_cost at hF
  refine j_blk (pc' := 1) (lv' := [(0, .ref a0)]) (st' := [.ref a0]) E b_c7_cost_0_1 rfl ?_
  replace hF := obd_at hF
  obtain ⟨c3, hc, hF⟩ := hF
  replace hF := ogd_at hF
  obtain ⟨hc12, hF⟩ := hF
  replace hF := obd_at hF
  obtain ⟨v2, he1, hF⟩ := hF
  refine j_callx [] [] E w_RX7_7 (hroom 1 1 (by decide) (by decide)) hAA (c1_cost _ κ A _ _  he1) hc (blt_of hc12) (fun _ _ _ h _ _ => h) rfl rfl (Nat.le_of_ble_eq_true rfl) d_c7_cost_1 ⟨Nat.zero_le _, Nat.zero_le _⟩ ?_
  refine j_blk (pc' := 6) (lv' := [(0, .ref a0)]) (st' := [.int (v2 + (Int32.ofInt 5))]) E b_c7_cost_4_2 rfl ?_
  have e : res = v2 + (Int32.ofInt 5) := g_inj hF
  subst e
  exact j_iret E hQ d_c7_cost_6 (fun _ h => h)
theorem b_c9_skill_0_1 : bdec cX9_skill 0 [.aload_n 0] = true := by decide +kernel
theorem d_c9_skill_1 : decode cX9_skill 1 = .ok (.invokespecial 7, 3) := by decide +kernel
theorem b_c9_skill_4_2 : bdec cX9_skill 4 [.iconst 1, .isub] = true := by decide +kernel
theorem d_c9_skill_6 : decode cX9_skill 6 = .ok (.ireturn, 1) := by decide +kernel
def f9_skill (s0 : HM) (a0 : Nat) : Option (Int32) := obd (hcls s0 a0) (fun c3 => ogd (Nat.blt c3 12) (obd (f4_skill s0 a0) (fun v2 => some (v2 - (Int32.ofInt 1)))))
set_option maxRecDepth 100000 in
set_option maxHeartbeats 4000000 in
theorem c9_skill (l : Launch) (κ : KP) (A : Nat → Prop) (s0 : HM) (a0 : Nat) {res : Int32} (hF : f9_skill s0 a0 = some res) : Met l yX9_skill (Cond.code yX9_skill cX9_skill 1 (some .int) :: WT) (rmL 2 0 0) (PP κ A [.ref a0] (HS κ A s0)) (QQ (some (.int res)) (HS κ A s0) A) 0 0 A := by
  refine met_of (own := RX9) (by decide) rfl (Nat.le_of_ble_eq_true rfl) ?_
  intro Γ E hQ hL hR hA hent hini
  have hAA : ∀ q, A q → jA Γ q := fun q h => by rw [hA]; exact h
  have hroom : ∀ (d mL : Nat) {mc ms : Nat}, d < 2 → mL ≤ 21 → (rmL d mc ms).frames + 1 ≤ (jR Γ).frames ∧ 8 + (mL + 11) + (rmL d mc ms).locals ≤ (jR Γ).locals := fun d mL mc ms h1 h2 => by rw [hR]; exact rmL_le h1 h2
  show J Γ 1 (HS κ A s0) 0 0 0 [(0, .ref a0)] []
  unfold f9_skill at hF
  refine j_blk (pc' := 1) (lv' := [(0, .ref a0)]) (st' := [.ref a0]) E b_c9_skill_0_1 rfl ?_
  replace hF := obd_at hF
  obtain ⟨c3, hc, hF⟩ := hF
  replace hF := ogd_at hF
  obtain ⟨hc12, hF⟩ := hF
  replace hF := obd_at hF
  obtain ⟨v2, he1, hF⟩ := hF
  refine j_callx [] [] E w_RX9_7 (hroom 1 1 (by decide) (by decide)) hAA (c4_skill _ κ A _ _  he1) hc (blt_of hc12) (fun _ _ _ h _ _ => h) rfl rfl (Nat.le_of_ble_eq_true rfl) d_c9_skill_1 ⟨Nat.zero_le _, Nat.zero_le _⟩ ?_
  refine j_blk (pc' := 6) (lv' := [(0, .ref a0)]) (st' := [.int (v2 - (Int32.ofInt 1))]) E b_c9_skill_4_2 rfl ?_
  have e : res = v2 - (Int32.ofInt 1) := g_inj hF
  subst e
  exact j_iret E hQ d_c9_skill_6 (fun _ h => h)
theorem b_c9_cost_0_1 : bdec cX9_cost 0 [.aload_n 0] = true := by decide +kernel
theorem d_c9_cost_1 : decode cX9_cost 1 = .ok (.invokespecial 15, 3) := by decide +kernel
theorem b_c9_cost_4_2 : bdec cX9_cost 4 [.iconst 1, .isub] = true := by decide +kernel
theorem d_c9_cost_6 : decode cX9_cost 6 = .ok (.ireturn, 1) := by decide +kernel
def f9_cost (s0 : HM) (a0 : Nat) : Option (Int32) := obd (hcls s0 a0) (fun c3 => ogd (Nat.blt c3 12) (obd (f4_cost s0 a0) (fun v2 => some (v2 - (Int32.ofInt 1)))))
set_option maxRecDepth 100000 in
set_option maxHeartbeats 4000000 in
theorem c9_cost (l : Launch) (κ : KP) (A : Nat → Prop) (s0 : HM) (a0 : Nat) {res : Int32} (hF : f9_cost s0 a0 = some res) : Met l yX9_cost (Cond.code yX9_cost cX9_cost 1 (some .int) :: WT) (rmL 2 0 0) (PP κ A [.ref a0] (HS κ A s0)) (QQ (some (.int res)) (HS κ A s0) A) 0 0 A := by
  refine met_of (own := RX9) (by decide) rfl (Nat.le_of_ble_eq_true rfl) ?_
  intro Γ E hQ hL hR hA hent hini
  have hAA : ∀ q, A q → jA Γ q := fun q h => by rw [hA]; exact h
  have hroom : ∀ (d mL : Nat) {mc ms : Nat}, d < 2 → mL ≤ 21 → (rmL d mc ms).frames + 1 ≤ (jR Γ).frames ∧ 8 + (mL + 11) + (rmL d mc ms).locals ≤ (jR Γ).locals := fun d mL mc ms h1 h2 => by rw [hR]; exact rmL_le h1 h2
  show J Γ 1 (HS κ A s0) 0 0 0 [(0, .ref a0)] []
  unfold f9_cost at hF
  refine j_blk (pc' := 1) (lv' := [(0, .ref a0)]) (st' := [.ref a0]) E b_c9_cost_0_1 rfl ?_
  replace hF := obd_at hF
  obtain ⟨c3, hc, hF⟩ := hF
  replace hF := ogd_at hF
  obtain ⟨hc12, hF⟩ := hF
  replace hF := obd_at hF
  obtain ⟨v2, he1, hF⟩ := hF
  refine j_callx [] [] E w_RX9_15 (hroom 1 1 (by decide) (by decide)) hAA (c4_cost _ κ A _ _  he1) hc (blt_of hc12) (fun _ _ _ h _ _ => h) rfl rfl (Nat.le_of_ble_eq_true rfl) d_c9_cost_1 ⟨Nat.zero_le _, Nat.zero_le _⟩ ?_
  refine j_blk (pc' := 6) (lv' := [(0, .ref a0)]) (st' := [.int (v2 - (Int32.ofInt 1))]) E b_c9_cost_4_2 rfl ?_
  have e : res = v2 - (Int32.ofInt 1) := g_inj hF
  subst e
  exact j_iret E hQ d_c9_cost_6 (fun _ h => h)
theorem b_c3_init_0_2 : bdec cX3_init 0 [.aload_n 0, .iload_n 1] = true := by decide +kernel
theorem d_c3_init_2 : decode cX3_init 2 = .ok (.invokespecial 1, 3) := by decide +kernel
theorem d_c3_init_5 : decode cX3_init 5 = .ok (.return_, 1) := by decide +kernel
def f3_init (s0 : HM) (a0 : Nat) (p1 : Int32) : Option (HM) := obd (f5_init s0 a0 p1) (fun s2 => some s2)
set_option maxRecDepth 100000 in
set_option maxHeartbeats 4000000 in
theorem c3_init (l : Launch) (κ : KP) (A : Nat → Prop) (s0 : HM) (a0 : Nat) (p1 : Int32) {res : HM} (hF : f3_init s0 a0 p1 = some res) : Met l yX3_init (Cond.code yX3_init cX3_init 2 none :: WT) (rmL 3 0 0) (PP κ A [.ref a0, .int p1] (HS κ A s0)) (QQ none (HS κ A res) A) 0 0 A := by
  refine met_of (own := RX3) (by decide) rfl (Nat.le_of_ble_eq_true rfl) ?_
  intro Γ E hQ hL hR hA hent hini
  have hAA : ∀ q, A q → jA Γ q := fun q h => by rw [hA]; exact h
  have hroom : ∀ (d mL : Nat) {mc ms : Nat}, d < 3 → mL ≤ 21 → (rmL d mc ms).frames + 1 ≤ (jR Γ).frames ∧ 8 + (mL + 11) + (rmL d mc ms).locals ≤ (jR Γ).locals := fun d mL mc ms h1 h2 => by rw [hR]; exact rmL_le h1 h2
  show J Γ 2 (HS κ A s0) 0 0 0 [(0, .ref a0), (1, .int p1)] []
  unfold f3_init at hF
  refine j_blk (pc' := 2) (lv' := [(0, .ref a0), (1, .int p1)]) (st' := [.int p1, .ref a0]) E b_c3_init_0_2 rfl ?_
  replace hF := obd_at hF
  obtain ⟨s2, he1, hF⟩ := hF
  refine j_calli [.int p1] [] E w_RX3_1 (hroom 2 2 (by decide) (by decide)) hAA (c5_init _ κ A _ _ _  he1) (fun _ h => h) (fun _ _ _ h _ _ => h) rfl rfl (Nat.le_of_ble_eq_true rfl) d_c3_init_2 ⟨Nat.zero_le _, Nat.zero_le _⟩ ?_
  have e : res = s2 := g_inj hF
  subst e
  exact j_vret E hQ d_c3_init_5 (fun _ h => h)
theorem b_c7_init_0_2 : bdec cX7_init 0 [.aload_n 0, .iload_n 1] = true := by decide +kernel
theorem d_c7_init_2 : decode cX7_init 2 = .ok (.invokespecial 1, 3) := by decide +kernel
theorem d_c7_init_5 : decode cX7_init 5 = .ok (.return_, 1) := by decide +kernel
def f7_init (s0 : HM) (a0 : Nat) (p1 : Int32) : Option (HM) := obd (f1_init s0 a0 p1) (fun s2 => some s2)
set_option maxRecDepth 100000 in
set_option maxHeartbeats 4000000 in
theorem c7_init (l : Launch) (κ : KP) (A : Nat → Prop) (s0 : HM) (a0 : Nat) (p1 : Int32) {res : HM} (hF : f7_init s0 a0 p1 = some res) : Met l yX7_init (Cond.code yX7_init cX7_init 2 none :: WT) (rmL 3 0 0) (PP κ A [.ref a0, .int p1] (HS κ A s0)) (QQ none (HS κ A res) A) 0 0 A := by
  refine met_of (own := RX7) (by decide) rfl (Nat.le_of_ble_eq_true rfl) ?_
  intro Γ E hQ hL hR hA hent hini
  have hAA : ∀ q, A q → jA Γ q := fun q h => by rw [hA]; exact h
  have hroom : ∀ (d mL : Nat) {mc ms : Nat}, d < 3 → mL ≤ 21 → (rmL d mc ms).frames + 1 ≤ (jR Γ).frames ∧ 8 + (mL + 11) + (rmL d mc ms).locals ≤ (jR Γ).locals := fun d mL mc ms h1 h2 => by rw [hR]; exact rmL_le h1 h2
  show J Γ 2 (HS κ A s0) 0 0 0 [(0, .ref a0), (1, .int p1)] []
  unfold f7_init at hF
  refine j_blk (pc' := 2) (lv' := [(0, .ref a0), (1, .int p1)]) (st' := [.int p1, .ref a0]) E b_c7_init_0_2 rfl ?_
  replace hF := obd_at hF
  obtain ⟨s2, he1, hF⟩ := hF
  refine j_calli [.int p1] [] E w_RX7_1 (hroom 2 2 (by decide) (by decide)) hAA (c1_init _ κ A _ _ _  he1) (fun _ h => h) (fun _ _ _ h _ _ => h) rfl rfl (Nat.le_of_ble_eq_true rfl) d_c7_init_2 ⟨Nat.zero_le _, Nat.zero_le _⟩ ?_
  have e : res = s2 := g_inj hF
  subst e
  exact j_vret E hQ d_c7_init_5 (fun _ h => h)
theorem b_c9_init_0_2 : bdec cX9_init 0 [.aload_n 0, .iload_n 1] = true := by decide +kernel
theorem d_c9_init_2 : decode cX9_init 2 = .ok (.invokespecial 1, 3) := by decide +kernel
theorem d_c9_init_5 : decode cX9_init 5 = .ok (.return_, 1) := by decide +kernel
def f9_init (s0 : HM) (a0 : Nat) (p1 : Int32) : Option (HM) := obd (f4_init s0 a0 p1) (fun s2 => some s2)
set_option maxRecDepth 100000 in
set_option maxHeartbeats 4000000 in
theorem c9_init (l : Launch) (κ : KP) (A : Nat → Prop) (s0 : HM) (a0 : Nat) (p1 : Int32) {res : HM} (hF : f9_init s0 a0 p1 = some res) : Met l yX9_init (Cond.code yX9_init cX9_init 2 none :: WT) (rmL 3 0 0) (PP κ A [.ref a0, .int p1] (HS κ A s0)) (QQ none (HS κ A res) A) 0 0 A := by
  refine met_of (own := RX9) (by decide) rfl (Nat.le_of_ble_eq_true rfl) ?_
  intro Γ E hQ hL hR hA hent hini
  have hAA : ∀ q, A q → jA Γ q := fun q h => by rw [hA]; exact h
  have hroom : ∀ (d mL : Nat) {mc ms : Nat}, d < 3 → mL ≤ 21 → (rmL d mc ms).frames + 1 ≤ (jR Γ).frames ∧ 8 + (mL + 11) + (rmL d mc ms).locals ≤ (jR Γ).locals := fun d mL mc ms h1 h2 => by rw [hR]; exact rmL_le h1 h2
  show J Γ 2 (HS κ A s0) 0 0 0 [(0, .ref a0), (1, .int p1)] []
  unfold f9_init at hF
  refine j_blk (pc' := 2) (lv' := [(0, .ref a0), (1, .int p1)]) (st' := [.int p1, .ref a0]) E b_c9_init_0_2 rfl ?_
  replace hF := obd_at hF
  obtain ⟨s2, he1, hF⟩ := hF
  refine j_calli [.int p1] [] E w_RX9_1 (hroom 2 2 (by decide) (by decide)) hAA (c4_init _ κ A _ _ _  he1) (fun _ h => h) (fun _ _ _ h _ _ => h) rfl rfl (Nat.le_of_ble_eq_true rfl) d_c9_init_2 ⟨Nat.zero_le _, Nat.zero_le _⟩ ?_
  have e : res = s2 := g_inj hF
  subst e
  exact j_vret E hQ d_c9_init_5 (fun _ h => h)
def v_cost (s : HM) (a : Nat) : Option Int32 := match hcls s a with
  | some 0 => f0_cost s a
  | some 1 => f1_cost s a
  | some 3 => f3_cost s a
  | some 4 => f4_cost s a
  | some 5 => f5_cost s a
  | some 6 => f6_cost s a
  | some 7 => f7_cost s a
  | some 9 => f9_cost s a
  | _ => none
def v_countsWith (s : HM) (a : Nat) (x0 : Int32) : Option Int32 := match hcls s a with
  | some 0 => f6_countsWith s a x0
  | some 1 => f6_countsWith s a x0
  | some 3 => f3_countsWith s a x0
  | some 4 => f4_countsWith s a x0
  | some 5 => f6_countsWith s a x0
  | some 6 => f6_countsWith s a x0
  | some 7 => f7_countsWith s a x0
  | some 9 => f9_countsWith s a x0
  | _ => none
def v_kind (s : HM) (a : Nat) : Option Int32 := match hcls s a with
  | some 0 => f0_kind s a
  | some 1 => f1_kind s a
  | some 3 => f3_kind s a
  | some 4 => f4_kind s a
  | some 5 => f5_kind s a
  | some 6 => f6_kind s a
  | some 7 => f7_kind s a
  | some 9 => f9_kind s a
  | _ => none
def v_skill (s : HM) (a : Nat) : Option Int32 := match hcls s a with
  | some 0 => f0_skill s a
  | some 1 => f1_skill s a
  | some 3 => f3_skill s a
  | some 4 => f4_skill s a
  | some 5 => f6_skill s a
  | some 6 => f6_skill s a
  | some 7 => f1_skill s a
  | some 9 => f9_skill s a
  | _ => none
theorem jv_RX10_88 {Γ : JC} {κ : KP} {cc : ByteArray} {nL : Nat} {ret : Option FieldType} {A : Nat → Prop} {s : HM} {k n pc b : Nat} {lv : List (Nat × Value)} {r : Int32} {rest : List Value} {D C S : Nat} (E : JE Γ κ cc RX10 nL ret) (hR : jR Γ = rmL D C S) (hD : 0 < D) (hAA : ∀ q, A q → jA Γ q) (hF : v_kind s b = some r) (hd : decode cc pc = .ok (.invokevirtual 88, 3)) (hcat : (rest.map fun v => v.category).sum ≤ 8) (hkn : k + 0 ≤ (jR Γ).cells ∧ n + 0 ≤ (jR Γ).slots) (kk : J Γ nL (HS κ A s) k n (pc + 3) lv (.int r :: rest)) : J Γ nL (HS κ A s) k n pc lv (.ref b :: rest) := by
  have hroom : ∀ (d mL : Nat) {mc ms : Nat}, d < D → mL ≤ 21 → (rmL d mc ms).frames + 1 ≤ (jR Γ).frames ∧ 8 + (mL + 11) + (rmL d mc ms).locals ≤ (jR Γ).locals := fun d mL mc ms h1 h2 => by rw [hR]; exact rmL_le h1 h2
  unfold v_kind at hF
  split at hF
  · rename_i hc
    exact j_callu (C := RX0) (owner := "OneBeatsBoth$Player") [] rest E wv_RX10_88_0 (hroom 0 1 (by omega) (by decide)) hAA (c0_kind _ κ A s b hF) (fun _ h => h) (fun _ _ _ h _ _ => h) (fun _ h => j_recv E h hc rfl) rfl rfl hcat hd hkn kk
  · rename_i hc
    exact j_callu (C := RX1) (owner := "OneBeatsBoth$Player") [] rest E wv_RX10_88_1 (hroom 0 1 (by omega) (by decide)) hAA (c1_kind _ κ A s b hF) (fun _ h => h) (fun _ _ _ h _ _ => h) (fun _ h => j_recv E h hc rfl) rfl rfl hcat hd hkn kk
  · rename_i hc
    exact j_callu (C := RX3) (owner := "OneBeatsBoth$Player") [] rest E wv_RX10_88_3 (hroom 0 1 (by omega) (by decide)) hAA (c3_kind _ κ A s b hF) (fun _ h => h) (fun _ _ _ h _ _ => h) (fun _ h => j_recv E h hc rfl) rfl rfl hcat hd hkn kk
  · rename_i hc
    exact j_callu (C := RX4) (owner := "OneBeatsBoth$Player") [] rest E wv_RX10_88_4 (hroom 0 1 (by omega) (by decide)) hAA (c4_kind _ κ A s b hF) (fun _ h => h) (fun _ _ _ h _ _ => h) (fun _ h => j_recv E h hc rfl) rfl rfl hcat hd hkn kk
  · rename_i hc
    exact j_callu (C := RX5) (owner := "OneBeatsBoth$Player") [] rest E wv_RX10_88_5 (hroom 0 1 (by omega) (by decide)) hAA (c5_kind _ κ A s b hF) (fun _ h => h) (fun _ _ _ h _ _ => h) (fun _ h => j_recv E h hc rfl) rfl rfl hcat hd hkn kk
  · rename_i hc
    exact j_callv (C := RX6) [] rest E wv_RX10_88_6 (hroom 0 1 (by omega) (by decide)) hAA (c6_kind _ κ A s b hF) (fun _ h => h) (fun _ _ _ h _ _ => h) (fun _ h => j_recv E h hc rfl) rfl rfl hcat hd hkn kk
  · rename_i hc
    exact j_callu (C := RX7) (owner := "OneBeatsBoth$Player") [] rest E wv_RX10_88_7 (hroom 0 1 (by omega) (by decide)) hAA (c7_kind _ κ A s b hF) (fun _ h => h) (fun _ _ _ h _ _ => h) (fun _ h => j_recv E h hc rfl) rfl rfl hcat hd hkn kk
  · rename_i hc
    exact j_callu (C := RX9) (owner := "OneBeatsBoth$Player") [] rest E wv_RX10_88_9 (hroom 0 1 (by omega) (by decide)) hAA (c9_kind _ κ A s b hF) (fun _ h => h) (fun _ _ _ h _ _ => h) (fun _ h => j_recv E h hc rfl) rfl rfl hcat hd hkn kk
  · cases hF
theorem jv_RX10_95 {Γ : JC} {κ : KP} {cc : ByteArray} {nL : Nat} {ret : Option FieldType} {A : Nat → Prop} {s : HM} {k n pc b : Nat} {lv : List (Nat × Value)} {r : Int32} {rest : List Value} {D C S : Nat} (E : JE Γ κ cc RX10 nL ret) (hR : jR Γ = rmL D C S) (hD : 2 < D) (hAA : ∀ q, A q → jA Γ q) (hF : v_skill s b = some r) (hd : decode cc pc = .ok (.invokevirtual 95, 3)) (hcat : (rest.map fun v => v.category).sum ≤ 8) (hkn : k + 0 ≤ (jR Γ).cells ∧ n + 0 ≤ (jR Γ).slots) (kk : J Γ nL (HS κ A s) k n (pc + 3) lv (.int r :: rest)) : J Γ nL (HS κ A s) k n pc lv (.ref b :: rest) := by
  have hroom : ∀ (d mL : Nat) {mc ms : Nat}, d < D → mL ≤ 21 → (rmL d mc ms).frames + 1 ≤ (jR Γ).frames ∧ 8 + (mL + 11) + (rmL d mc ms).locals ≤ (jR Γ).locals := fun d mL mc ms h1 h2 => by rw [hR]; exact rmL_le h1 h2
  unfold v_skill at hF
  split at hF
  · rename_i hc
    exact j_callu (C := RX0) (owner := "OneBeatsBoth$Player") [] rest E wv_RX10_95_0 (hroom 1 1 (by omega) (by decide)) hAA (c0_skill _ κ A s b hF) (fun _ h => h) (fun _ _ _ h _ _ => h) (fun _ h => j_recv E h hc rfl) rfl rfl hcat hd hkn kk
  · rename_i hc
    exact j_callu (C := RX1) (owner := "OneBeatsBoth$Player") [] rest E wv_RX10_95_1 (hroom 1 1 (by omega) (by decide)) hAA (c1_skill _ κ A s b hF) (fun _ h => h) (fun _ _ _ h _ _ => h) (fun _ h => j_recv E h hc rfl) rfl rfl hcat hd hkn kk
  · rename_i hc
    exact j_callu (C := RX3) (owner := "OneBeatsBoth$Player") [] rest E wv_RX10_95_3 (hroom 0 1 (by omega) (by decide)) hAA (c3_skill _ κ A s b hF) (fun _ h => h) (fun _ _ _ h _ _ => h) (fun _ h => j_recv E h hc rfl) rfl rfl hcat hd hkn kk
  · rename_i hc
    exact j_callu (C := RX4) (owner := "OneBeatsBoth$Player") [] rest E wv_RX10_95_4 (hroom 1 1 (by omega) (by decide)) hAA (c4_skill _ κ A s b hF) (fun _ h => h) (fun _ _ _ h _ _ => h) (fun _ h => j_recv E h hc rfl) rfl rfl hcat hd hkn kk
  · rename_i hc
    exact j_callu (C := RX5) (owner := "OneBeatsBoth$Player") [] rest E wv_RX10_95_5 (hroom 0 1 (by omega) (by decide)) hAA (c6_skill _ κ A s b hF) (fun _ h => h) (fun _ _ _ h _ _ => h) (fun _ h => j_recv E h hc rfl) rfl rfl hcat hd hkn kk
  · rename_i hc
    exact j_callv (C := RX6) [] rest E wv_RX10_95_6 (hroom 0 1 (by omega) (by decide)) hAA (c6_skill _ κ A s b hF) (fun _ h => h) (fun _ _ _ h _ _ => h) (fun _ h => j_recv E h hc rfl) rfl rfl hcat hd hkn kk
  · rename_i hc
    exact j_callu (C := RX7) (owner := "OneBeatsBoth$Player") [] rest E wv_RX10_95_7 (hroom 1 1 (by omega) (by decide)) hAA (c1_skill _ κ A s b hF) (fun _ h => h) (fun _ _ _ h _ _ => h) (fun _ h => j_recv E h hc rfl) rfl rfl hcat hd hkn kk
  · rename_i hc
    exact j_callu (C := RX9) (owner := "OneBeatsBoth$Player") [] rest E wv_RX10_95_9 (hroom 2 1 (by omega) (by decide)) hAA (c9_skill _ κ A s b hF) (fun _ h => h) (fun _ _ _ h _ _ => h) (fun _ h => j_recv E h hc rfl) rfl rfl hcat hd hkn kk
  · cases hF
theorem jv_RX10_104 {Γ : JC} {κ : KP} {cc : ByteArray} {nL : Nat} {ret : Option FieldType} {A : Nat → Prop} {s : HM} {k n pc b : Nat} {lv : List (Nat × Value)} {r : Int32} {rest : List Value} {D C S : Nat} (E : JE Γ κ cc RX10 nL ret) (hR : jR Γ = rmL D C S) (hD : 2 < D) (hAA : ∀ q, A q → jA Γ q) (hF : v_cost s b = some r) (hd : decode cc pc = .ok (.invokevirtual 104, 3)) (hcat : (rest.map fun v => v.category).sum ≤ 8) (hkn : k + 0 ≤ (jR Γ).cells ∧ n + 0 ≤ (jR Γ).slots) (kk : J Γ nL (HS κ A s) k n (pc + 3) lv (.int r :: rest)) : J Γ nL (HS κ A s) k n pc lv (.ref b :: rest) := by
  have hroom : ∀ (d mL : Nat) {mc ms : Nat}, d < D → mL ≤ 21 → (rmL d mc ms).frames + 1 ≤ (jR Γ).frames ∧ 8 + (mL + 11) + (rmL d mc ms).locals ≤ (jR Γ).locals := fun d mL mc ms h1 h2 => by rw [hR]; exact rmL_le h1 h2
  unfold v_cost at hF
  split at hF
  · rename_i hc
    exact j_callu (C := RX0) (owner := "OneBeatsBoth$Player") [] rest E wv_RX10_104_0 (hroom 1 1 (by omega) (by decide)) hAA (c0_cost _ κ A s b hF) (fun _ h => h) (fun _ _ _ h _ _ => h) (fun _ h => j_recv E h hc rfl) rfl rfl hcat hd hkn kk
  · rename_i hc
    exact j_callu (C := RX1) (owner := "OneBeatsBoth$Player") [] rest E wv_RX10_104_1 (hroom 1 1 (by omega) (by decide)) hAA (c1_cost _ κ A s b hF) (fun _ h => h) (fun _ _ _ h _ _ => h) (fun _ h => j_recv E h hc rfl) rfl rfl hcat hd hkn kk
  · rename_i hc
    exact j_callu (C := RX3) (owner := "OneBeatsBoth$Player") [] rest E wv_RX10_104_3 (hroom 2 1 (by omega) (by decide)) hAA (c3_cost _ κ A s b hF) (fun _ h => h) (fun _ _ _ h _ _ => h) (fun _ h => j_recv E h hc rfl) rfl rfl hcat hd hkn kk
  · rename_i hc
    exact j_callu (C := RX4) (owner := "OneBeatsBoth$Player") [] rest E wv_RX10_104_4 (hroom 1 1 (by omega) (by decide)) hAA (c4_cost _ κ A s b hF) (fun _ h => h) (fun _ _ _ h _ _ => h) (fun _ h => j_recv E h hc rfl) rfl rfl hcat hd hkn kk
  · rename_i hc
    exact j_callu (C := RX5) (owner := "OneBeatsBoth$Player") [] rest E wv_RX10_104_5 (hroom 1 1 (by omega) (by decide)) hAA (c5_cost _ κ A s b hF) (fun _ h => h) (fun _ _ _ h _ _ => h) (fun _ h => j_recv E h hc rfl) rfl rfl hcat hd hkn kk
  · rename_i hc
    exact j_callv (C := RX6) [] rest E wv_RX10_104_6 (hroom 0 1 (by omega) (by decide)) hAA (c6_cost _ κ A s b hF) (fun _ h => h) (fun _ _ _ h _ _ => h) (fun _ h => j_recv E h hc rfl) rfl rfl hcat hd hkn kk
  · rename_i hc
    exact j_callu (C := RX7) (owner := "OneBeatsBoth$Player") [] rest E wv_RX10_104_7 (hroom 2 1 (by omega) (by decide)) hAA (c7_cost _ κ A s b hF) (fun _ h => h) (fun _ _ _ h _ _ => h) (fun _ h => j_recv E h hc rfl) rfl rfl hcat hd hkn kk
  · rename_i hc
    exact j_callu (C := RX9) (owner := "OneBeatsBoth$Player") [] rest E wv_RX10_104_9 (hroom 2 1 (by omega) (by decide)) hAA (c9_cost _ κ A s b hF) (fun _ h => h) (fun _ _ _ h _ _ => h) (fun _ h => j_recv E h hc rfl) rfl rfl hcat hd hkn kk
  · cases hF
theorem jv_RX2_42 {Γ : JC} {κ : KP} {cc : ByteArray} {nL : Nat} {ret : Option FieldType} {A : Nat → Prop} {s : HM} {k n pc b : Nat} {lv : List (Nat × Value)} {r : Int32} {rest : List Value} {D C S : Nat} (E : JE Γ κ cc RX2 nL ret) (hR : jR Γ = rmL D C S) (hD : 2 < D) (hAA : ∀ q, A q → jA Γ q) (hF : v_cost s b = some r) (hd : decode cc pc = .ok (.invokevirtual 42, 3)) (hcat : (rest.map fun v => v.category).sum ≤ 8) (hkn : k + 0 ≤ (jR Γ).cells ∧ n + 0 ≤ (jR Γ).slots) (kk : J Γ nL (HS κ A s) k n (pc + 3) lv (.int r :: rest)) : J Γ nL (HS κ A s) k n pc lv (.ref b :: rest) := by
  have hroom : ∀ (d mL : Nat) {mc ms : Nat}, d < D → mL ≤ 21 → (rmL d mc ms).frames + 1 ≤ (jR Γ).frames ∧ 8 + (mL + 11) + (rmL d mc ms).locals ≤ (jR Γ).locals := fun d mL mc ms h1 h2 => by rw [hR]; exact rmL_le h1 h2
  unfold v_cost at hF
  split at hF
  · rename_i hc
    exact j_callu (C := RX0) (owner := "OneBeatsBoth$Player") [] rest E wv_RX2_42_0 (hroom 1 1 (by omega) (by decide)) hAA (c0_cost _ κ A s b hF) (fun _ h => h) (fun _ _ _ h _ _ => h) (fun _ h => j_recv E h hc rfl) rfl rfl hcat hd hkn kk
  · rename_i hc
    exact j_callu (C := RX1) (owner := "OneBeatsBoth$Player") [] rest E wv_RX2_42_1 (hroom 1 1 (by omega) (by decide)) hAA (c1_cost _ κ A s b hF) (fun _ h => h) (fun _ _ _ h _ _ => h) (fun _ h => j_recv E h hc rfl) rfl rfl hcat hd hkn kk
  · rename_i hc
    exact j_callu (C := RX3) (owner := "OneBeatsBoth$Player") [] rest E wv_RX2_42_3 (hroom 2 1 (by omega) (by decide)) hAA (c3_cost _ κ A s b hF) (fun _ h => h) (fun _ _ _ h _ _ => h) (fun _ h => j_recv E h hc rfl) rfl rfl hcat hd hkn kk
  · rename_i hc
    exact j_callu (C := RX4) (owner := "OneBeatsBoth$Player") [] rest E wv_RX2_42_4 (hroom 1 1 (by omega) (by decide)) hAA (c4_cost _ κ A s b hF) (fun _ h => h) (fun _ _ _ h _ _ => h) (fun _ h => j_recv E h hc rfl) rfl rfl hcat hd hkn kk
  · rename_i hc
    exact j_callu (C := RX5) (owner := "OneBeatsBoth$Player") [] rest E wv_RX2_42_5 (hroom 1 1 (by omega) (by decide)) hAA (c5_cost _ κ A s b hF) (fun _ h => h) (fun _ _ _ h _ _ => h) (fun _ h => j_recv E h hc rfl) rfl rfl hcat hd hkn kk
  · rename_i hc
    exact j_callv (C := RX6) [] rest E wv_RX2_42_6 (hroom 0 1 (by omega) (by decide)) hAA (c6_cost _ κ A s b hF) (fun _ h => h) (fun _ _ _ h _ _ => h) (fun _ h => j_recv E h hc rfl) rfl rfl hcat hd hkn kk
  · rename_i hc
    exact j_callu (C := RX7) (owner := "OneBeatsBoth$Player") [] rest E wv_RX2_42_7 (hroom 2 1 (by omega) (by decide)) hAA (c7_cost _ κ A s b hF) (fun _ h => h) (fun _ _ _ h _ _ => h) (fun _ h => j_recv E h hc rfl) rfl rfl hcat hd hkn kk
  · rename_i hc
    exact j_callu (C := RX9) (owner := "OneBeatsBoth$Player") [] rest E wv_RX2_42_9 (hroom 2 1 (by omega) (by decide)) hAA (c9_cost _ κ A s b hF) (fun _ h => h) (fun _ _ _ h _ _ => h) (fun _ h => j_recv E h hc rfl) rfl rfl hcat hd hkn kk
  · cases hF
theorem jv_RX2_50 {Γ : JC} {κ : KP} {cc : ByteArray} {nL : Nat} {ret : Option FieldType} {A : Nat → Prop} {s : HM} {k n pc b : Nat} {lv : List (Nat × Value)} {r : Int32} {rest : List Value} {D C S : Nat} (E : JE Γ κ cc RX2 nL ret) (hR : jR Γ = rmL D C S) (hD : 2 < D) (hAA : ∀ q, A q → jA Γ q) (hF : v_skill s b = some r) (hd : decode cc pc = .ok (.invokevirtual 50, 3)) (hcat : (rest.map fun v => v.category).sum ≤ 8) (hkn : k + 0 ≤ (jR Γ).cells ∧ n + 0 ≤ (jR Γ).slots) (kk : J Γ nL (HS κ A s) k n (pc + 3) lv (.int r :: rest)) : J Γ nL (HS κ A s) k n pc lv (.ref b :: rest) := by
  have hroom : ∀ (d mL : Nat) {mc ms : Nat}, d < D → mL ≤ 21 → (rmL d mc ms).frames + 1 ≤ (jR Γ).frames ∧ 8 + (mL + 11) + (rmL d mc ms).locals ≤ (jR Γ).locals := fun d mL mc ms h1 h2 => by rw [hR]; exact rmL_le h1 h2
  unfold v_skill at hF
  split at hF
  · rename_i hc
    exact j_callu (C := RX0) (owner := "OneBeatsBoth$Player") [] rest E wv_RX2_50_0 (hroom 1 1 (by omega) (by decide)) hAA (c0_skill _ κ A s b hF) (fun _ h => h) (fun _ _ _ h _ _ => h) (fun _ h => j_recv E h hc rfl) rfl rfl hcat hd hkn kk
  · rename_i hc
    exact j_callu (C := RX1) (owner := "OneBeatsBoth$Player") [] rest E wv_RX2_50_1 (hroom 1 1 (by omega) (by decide)) hAA (c1_skill _ κ A s b hF) (fun _ h => h) (fun _ _ _ h _ _ => h) (fun _ h => j_recv E h hc rfl) rfl rfl hcat hd hkn kk
  · rename_i hc
    exact j_callu (C := RX3) (owner := "OneBeatsBoth$Player") [] rest E wv_RX2_50_3 (hroom 0 1 (by omega) (by decide)) hAA (c3_skill _ κ A s b hF) (fun _ h => h) (fun _ _ _ h _ _ => h) (fun _ h => j_recv E h hc rfl) rfl rfl hcat hd hkn kk
  · rename_i hc
    exact j_callu (C := RX4) (owner := "OneBeatsBoth$Player") [] rest E wv_RX2_50_4 (hroom 1 1 (by omega) (by decide)) hAA (c4_skill _ κ A s b hF) (fun _ h => h) (fun _ _ _ h _ _ => h) (fun _ h => j_recv E h hc rfl) rfl rfl hcat hd hkn kk
  · rename_i hc
    exact j_callu (C := RX5) (owner := "OneBeatsBoth$Player") [] rest E wv_RX2_50_5 (hroom 0 1 (by omega) (by decide)) hAA (c6_skill _ κ A s b hF) (fun _ h => h) (fun _ _ _ h _ _ => h) (fun _ h => j_recv E h hc rfl) rfl rfl hcat hd hkn kk
  · rename_i hc
    exact j_callv (C := RX6) [] rest E wv_RX2_50_6 (hroom 0 1 (by omega) (by decide)) hAA (c6_skill _ κ A s b hF) (fun _ h => h) (fun _ _ _ h _ _ => h) (fun _ h => j_recv E h hc rfl) rfl rfl hcat hd hkn kk
  · rename_i hc
    exact j_callu (C := RX7) (owner := "OneBeatsBoth$Player") [] rest E wv_RX2_50_7 (hroom 1 1 (by omega) (by decide)) hAA (c1_skill _ κ A s b hF) (fun _ h => h) (fun _ _ _ h _ _ => h) (fun _ h => j_recv E h hc rfl) rfl rfl hcat hd hkn kk
  · rename_i hc
    exact j_callu (C := RX9) (owner := "OneBeatsBoth$Player") [] rest E wv_RX2_50_9 (hroom 2 1 (by omega) (by decide)) hAA (c9_skill _ κ A s b hF) (fun _ h => h) (fun _ _ _ h _ _ => h) (fun _ h => j_recv E h hc rfl) rfl rfl hcat hd hkn kk
  · cases hF
theorem jv_RX2_68 {Γ : JC} {κ : KP} {cc : ByteArray} {nL : Nat} {ret : Option FieldType} {A : Nat → Prop} {s : HM} {k n pc b : Nat} {lv : List (Nat × Value)} {x0 : Int32} {r : Int32} {rest : List Value} {D C S : Nat} (E : JE Γ κ cc RX2 nL ret) (hR : jR Γ = rmL D C S) (hD : 1 < D) (hAA : ∀ q, A q → jA Γ q) (hF : v_countsWith s b x0 = some r) (hd : decode cc pc = .ok (.invokevirtual 68, 3)) (hcat : (rest.map fun v => v.category).sum ≤ 8) (hkn : k + 0 ≤ (jR Γ).cells ∧ n + 0 ≤ (jR Γ).slots) (kk : J Γ nL (HS κ A s) k n (pc + 3) lv (.int r :: rest)) : J Γ nL (HS κ A s) k n pc lv (.int x0 :: .ref b :: rest) := by
  have hroom : ∀ (d mL : Nat) {mc ms : Nat}, d < D → mL ≤ 21 → (rmL d mc ms).frames + 1 ≤ (jR Γ).frames ∧ 8 + (mL + 11) + (rmL d mc ms).locals ≤ (jR Γ).locals := fun d mL mc ms h1 h2 => by rw [hR]; exact rmL_le h1 h2
  unfold v_countsWith at hF
  split at hF
  · rename_i hc
    exact j_callu (C := RX0) (owner := "OneBeatsBoth$Player") [.int x0] rest E wv_RX2_68_0 (hroom 0 2 (by omega) (by decide)) hAA (c6_countsWith _ κ A s b x0 hF) (fun _ h => h) (fun _ _ _ h _ _ => h) (fun _ h => j_recv E h hc rfl) rfl rfl hcat hd hkn kk
  · rename_i hc
    exact j_callu (C := RX1) (owner := "OneBeatsBoth$Player") [.int x0] rest E wv_RX2_68_1 (hroom 0 2 (by omega) (by decide)) hAA (c6_countsWith _ κ A s b x0 hF) (fun _ h => h) (fun _ _ _ h _ _ => h) (fun _ h => j_recv E h hc rfl) rfl rfl hcat hd hkn kk
  · rename_i hc
    exact j_callu (C := RX3) (owner := "OneBeatsBoth$Player") [.int x0] rest E wv_RX2_68_3 (hroom 0 2 (by omega) (by decide)) hAA (c3_countsWith _ κ A s b x0 hF) (fun _ h => h) (fun _ _ _ h _ _ => h) (fun _ h => j_recv E h hc rfl) rfl rfl hcat hd hkn kk
  · rename_i hc
    exact j_callu (C := RX4) (owner := "OneBeatsBoth$Player") [.int x0] rest E wv_RX2_68_4 (hroom 0 2 (by omega) (by decide)) hAA (c4_countsWith _ κ A s b x0 hF) (fun _ h => h) (fun _ _ _ h _ _ => h) (fun _ h => j_recv E h hc rfl) rfl rfl hcat hd hkn kk
  · rename_i hc
    exact j_callu (C := RX5) (owner := "OneBeatsBoth$Player") [.int x0] rest E wv_RX2_68_5 (hroom 0 2 (by omega) (by decide)) hAA (c6_countsWith _ κ A s b x0 hF) (fun _ h => h) (fun _ _ _ h _ _ => h) (fun _ h => j_recv E h hc rfl) rfl rfl hcat hd hkn kk
  · rename_i hc
    exact j_callv (C := RX6) [.int x0] rest E wv_RX2_68_6 (hroom 0 2 (by omega) (by decide)) hAA (c6_countsWith _ κ A s b x0 hF) (fun _ h => h) (fun _ _ _ h _ _ => h) (fun _ h => j_recv E h hc rfl) rfl rfl hcat hd hkn kk
  · rename_i hc
    exact j_callu (C := RX7) (owner := "OneBeatsBoth$Player") [.int x0] rest E wv_RX2_68_7 (hroom 0 2 (by omega) (by decide)) hAA (c7_countsWith _ κ A s b x0 hF) (fun _ h => h) (fun _ _ _ h _ _ => h) (fun _ h => j_recv E h hc rfl) rfl rfl hcat hd hkn kk
  · rename_i hc
    exact j_callu (C := RX9) (owner := "OneBeatsBoth$Player") [.int x0] rest E wv_RX2_68_9 (hroom 1 2 (by omega) (by decide)) hAA (c9_countsWith _ κ A s b x0 hF) (fun _ h => h) (fun _ _ _ h _ _ => h) (fun _ h => j_recv E h hc rfl) rfl rfl hcat hd hkn kk
  · cases hF
