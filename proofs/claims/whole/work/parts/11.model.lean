/-! METHODS (by program): what each does, and that its bytecode does it -/
theorem b_c11_thrown_0_1 : bdec cX11_thrown 0 [.aload_n 0] = true := by decide +kernel
theorem d_c11_thrown_1 : decode cX11_thrown 1 = .ok (.getfield 43, 3) := by decide +kernel
theorem d_c11_thrown_4 : decode cX11_thrown 4 = .ok (.ireturn, 1) := by decide +kernel
def f11_thrown (s0 : HM) (a0 : Nat) : Option (Int32) := obd (hfi s0 [11] 11 a0) (fun v1 => some v1)
set_option maxRecDepth 100000 in
set_option maxHeartbeats 4000000 in
theorem c11_thrown (l : Launch) (κ : KP) (A : Nat → Prop) (s0 : HM) (a0 : Nat) {res : Int32} (hF : f11_thrown s0 a0 = some res) : Met l yX11_thrown (Cond.code yX11_thrown cX11_thrown 1 (some .int) :: WT) (rmL 0 0 0) (PP κ A [.ref a0] (HS κ A s0)) (QQ (some (.int res)) (HS κ A s0) A) 0 0 A := by
  refine met_of (own := RX11) (by decide) rfl (Nat.le_of_ble_eq_true rfl) ?_
  intro Γ E hQ hL hR hA hent hini
  have hAA : ∀ q, A q → jA Γ q := fun q h => by rw [hA]; exact h
  have hroom : ∀ (d mL : Nat) {mc ms : Nat}, d < 0 → mL ≤ 21 → (rmL d mc ms).frames + 1 ≤ (jR Γ).frames ∧ 8 + (mL + 11) + (rmL d mc ms).locals ≤ (jR Γ).locals := fun d mL mc ms h1 h2 => by rw [hR]; exact rmL_le h1 h2
  show J Γ 1 (HS κ A s0) 0 0 0 [(0, .ref a0)] []
  unfold f11_thrown at hF
  refine j_blk (pc' := 1) (lv' := [(0, .ref a0)]) (st' := [.ref a0]) E b_c11_thrown_0_1 rfl ?_
  replace hF := obd_at hF
  obtain ⟨v1, ev1, hF⟩ := hF
  refine j_getI E fg_RX11_43 d_c11_thrown_1 ev1 ?_
  have e : res = v1 := g_inj hF
  subst e
  exact j_iret E hQ d_c11_thrown_4 (fun _ h => h)
theorem b_c11_isIn_0_3 : bdec cX11_isIn 0 [.lload_n 0, .lload_n 2, .lcmp] = true := by decide +kernel
theorem d_c11_isIn_3 : decode cX11_isIn 3 = .ok (.ifCond .lt 14, 3) := by decide +kernel
theorem b_c11_isIn_17_1 : bdec cX11_isIn 17 [.iconst 0] = true := by decide +kernel
theorem d_c11_isIn_18 : decode cX11_isIn 18 = .ok (.ireturn, 1) := by decide +kernel
theorem b_c11_isIn_6_3 : bdec cX11_isIn 6 [.lload_n 0, .lload 4, .lcmp] = true := by decide +kernel
theorem d_c11_isIn_10 : decode cX11_isIn 10 = .ok (.ifCond .gt 7, 3) := by decide +kernel
theorem b_c11_isIn_13_1 : bdec cX11_isIn 13 [.iconst 1] = true := by decide +kernel
theorem d_c11_isIn_14 : decode cX11_isIn 14 = .ok (.goto 4, 3) := by decide +kernel
def f11_isIn (p0 : Int64) (p2 : Int64) (p4 : Int64) : Option (Int32) := if (lg_cmp p0 p2) < 0 then (some (Int32.ofInt 0)) else (if 0 < (lg_cmp p0 p4) then (some (Int32.ofInt 0)) else (some (Int32.ofInt 1)))
set_option maxRecDepth 100000 in
set_option maxHeartbeats 4000000 in
theorem c11_isIn (l : Launch) (κ : KP) (A : Nat → Prop) (HP : Heap → Prop) (p0 : Int64) (p2 : Int64) (p4 : Int64) {res : Int32} (hF : f11_isIn p0 p2 p4 = some res) : Met l yX11_isIn (Cond.code yX11_isIn cX11_isIn 6 (some .boolean) :: WT) (rmL 0 0 0) (PP κ A [.long p0, .long p2, .long p4] HP) (QQ (some (.int res)) HP A) 0 0 A := by
  refine met_of (own := RX11) (by decide) rfl (Nat.le_of_ble_eq_true rfl) ?_
  intro Γ E hQ hL hR hA hent hini
  have hAA : ∀ q, A q → jA Γ q := fun q h => by rw [hA]; exact h
  have hroom : ∀ (d mL : Nat) {mc ms : Nat}, d < 0 → mL ≤ 21 → (rmL d mc ms).frames + 1 ≤ (jR Γ).frames ∧ 8 + (mL + 11) + (rmL d mc ms).locals ≤ (jR Γ).locals := fun d mL mc ms h1 h2 => by rw [hR]; exact rmL_le h1 h2
  show J Γ 6 HP 0 0 0 [(0, .long p0), (2, .long p2), (4, .long p4)] []
  unfold f11_isIn at hF
  refine j_blk (pc' := 3) (lv' := [(0, .long p0), (2, .long p2), (4, .long p4)]) (st' := [.int (lg_cmp p0 p2)]) E b_c11_isIn_0_3 rfl ?_
  refine j_if_lt (tgt := 17) E d_c11_isIn_3 (by decide) (fun h1 => ?_) (fun h1 => ?_)
  · replace hF := g_t hF h1
    refine j_blk (pc' := 18) (lv' := [(0, .long p0), (2, .long p2), (4, .long p4)]) (st' := [.int (Int32.ofInt 0)]) E b_c11_isIn_17_1 rfl ?_
    have e : res = Int32.ofInt 0 := g_inj hF
    subst e
    exact j_zret E hQ nb_0 d_c11_isIn_18 (fun _ h => h)
  · replace hF := g_f hF h1
    refine j_blk (pc' := 10) (lv' := [(0, .long p0), (2, .long p2), (4, .long p4)]) (st' := [.int (lg_cmp p0 p4)]) E b_c11_isIn_6_3 rfl ?_
    refine j_if_gt (tgt := 17) E d_c11_isIn_10 (by decide) (fun h2 => ?_) (fun h2 => ?_)
    · replace hF := g_t hF h2
      refine j_blk (pc' := 18) (lv' := [(0, .long p0), (2, .long p2), (4, .long p4)]) (st' := [.int (Int32.ofInt 0)]) E b_c11_isIn_17_1 rfl ?_
      have e : res = Int32.ofInt 0 := g_inj hF
      subst e
      exact j_zret E hQ nb_0 d_c11_isIn_18 (fun _ h => h)
    · replace hF := g_f hF h2
      refine j_blk (pc' := 14) (lv' := [(0, .long p0), (2, .long p2), (4, .long p4)]) (st' := [.int (Int32.ofInt 1)]) E b_c11_isIn_13_1 rfl ?_
      refine j_goto (tgt := 18) E d_c11_isIn_14 (by decide) ?_
      have e : res = Int32.ofInt 1 := g_inj hF
      subst e
      exact j_zret E hQ nb_1 d_c11_isIn_18 (fun _ h => h)
theorem b_c11_lays_0_2 : bdec cX11_lays 0 [.iconst 0, .istore_n 2] = true := by decide +kernel
theorem b_c11_lays_2_2 : bdec cX11_lays 2 [.iload_n 2, .bipush 26] = true := by decide +kernel
theorem d_c11_lays_5 : decode cX11_lays 5 = .ok (.if_icmp .ge 15, 3) := by decide +kernel
theorem b_c11_lays_8_4 : bdec cX11_lays 8 [.aload_n 1, .iload_n 2, .aload_n 0, .iload_n 2] = true := by decide +kernel
theorem d_c11_lays_12 : decode cX11_lays 12 = .ok (.iaload, 1) := by decide +kernel
theorem d_c11_lays_13 : decode cX11_lays 13 = .ok (.iastore, 1) := by decide +kernel
theorem b_c11_lays_14_1 : bdec cX11_lays 14 [.iinc 2 1] = true := by decide +kernel
theorem d_c11_lays_17 : decode cX11_lays 17 = .ok (.goto (-15), 3) := by decide +kernel
theorem d_c11_lays_20 : decode cX11_lays 20 = .ok (.return_, 1) := by decide +kernel
def f11_lays_L2 (p0 : Nat) (p1 : Nat) (w : Int32 × HM) : Option ((Int32 × HM) ⊕ (HM)) := match w with
  | (x2_2, s2) => if ((Int8.ofInt 26).toInt32) ≤ x2_2 then (some (.inr s2)) else (obd (hald s2 p0 x2_2) (fun v3 => obd (hast s2 p1 x2_2 v3) (fun s4 => some (.inl (x2_2 + Int32.ofInt 1, s4)))))
def f11_lays (s0 : HM) (p0 : Nat) (p1 : Nat) : Option (HM) := obd (iter (f11_lays_L2 p0 p1) FU (Int32.ofInt 0, s0)) (fun o1 => match o1 with | t2 => some t2)
set_option maxRecDepth 100000 in
set_option maxHeartbeats 4000000 in
theorem c11_lays (l : Launch) (κ : KP) (A : Nat → Prop) (s0 : HM) (p0 : Nat) (p1 : Nat) {res : HM} (hF : f11_lays s0 p0 p1 = some res) : Met l yX11_lays (Cond.code yX11_lays cX11_lays 3 none :: WT) (rmL 0 0 0) (PP κ A [.ref p0, .ref p1] (HS κ A s0)) (QQ none (HS κ A res) A) 0 0 A := by
  refine met_of (own := RX11) (by decide) rfl (Nat.le_of_ble_eq_true rfl) ?_
  intro Γ E hQ hL hR hA hent hini
  have hAA : ∀ q, A q → jA Γ q := fun q h => by rw [hA]; exact h
  have hroom : ∀ (d mL : Nat) {mc ms : Nat}, d < 0 → mL ≤ 21 → (rmL d mc ms).frames + 1 ≤ (jR Γ).frames ∧ 8 + (mL + 11) + (rmL d mc ms).locals ≤ (jR Γ).locals := fun d mL mc ms h1 h2 => by rw [hR]; exact rmL_le h1 h2
  show J Γ 3 (HS κ A s0) 0 0 0 [(0, .ref p0), (1, .ref p1)] []
  unfold f11_lays at hF
  refine j_blk (pc' := 2) (lv' := [(2, .int (Int32.ofInt 0)), (0, .ref p0), (1, .ref p1)]) (st' := []) E b_c11_lays_0_2 rfl ?_
  refine j_lv [1, 2, 0] rfl ?_
  replace hF := obd_at hF
  obtain ⟨o1, ho1, hF⟩ := hF
  have lpo1 : ∀ (fu : Nat) (w : Int32 × HM) (o : HM), iter (f11_lays_L2 p0 p1) fu w = some o → (fun (o : HM) => J Γ 3 (HS κ A o) 0 0 20 [] []) o → (fun (w : Int32 × HM) => J Γ 3 (HS κ A w.2) 0 0 2 [(0, .ref p0), (1, .ref p1), (2, .int w.1)] []) w := by
    refine j_iter (P := fun (w : Int32 × HM) => J Γ 3 (HS κ A w.2) 0 0 2 [(0, .ref p0), (1, .ref p1), (2, .int w.1)] []) (G := fun (o : HM) => J Γ 3 (HS κ A o) 0 0 20 [] []) ?_
    rintro ⟨x2_2, s2⟩ q hF hI hO
    show J Γ 3 (HS κ A s2) 0 0 2 [(0, .ref p0), (1, .ref p1), (2, .int x2_2)] []
    unfold f11_lays_L2 at hF
    refine j_blk (pc' := 5) (lv' := [(0, .ref p0), (1, .ref p1), (2, .int x2_2)]) (st' := [.int ((Int8.ofInt 26).toInt32), .int x2_2]) E b_c11_lays_2_2 rfl ?_
    refine j_icmp_ge (tgt := 20) E d_c11_lays_5 (by decide) (fun h2 => ?_) (fun h2 => ?_)
    · replace hF := g_t hF h2
      refine j_lv [] rfl ?_
      exact hO _ (g_inj hF)
    · replace hF := g_f hF h2
      refine j_blk (pc' := 12) (lv' := [(0, .ref p0), (1, .ref p1), (2, .int x2_2)]) (st' := [.int x2_2, .ref p0, .int x2_2, .ref p1]) E b_c11_lays_8_4 rfl ?_
      replace hF := obd_at hF
      obtain ⟨v3, ev3, hF⟩ := hF
      refine j_iald E d_c11_lays_12 ev3 ?_
      replace hF := obd_at hF
      obtain ⟨s4, es4, hF⟩ := hF
      refine j_iast E d_c11_lays_13 es4 hAA ?_
      refine j_blk (pc' := 17) (lv' := [(2, .int (x2_2 + Int32.ofInt 1)), (0, .ref p0), (1, .ref p1)]) (st' := []) E b_c11_lays_14_1 rfl ?_
      refine j_goto (tgt := 2) E d_c11_lays_17 (by decide) ?_
      refine j_lv [1, 2, 0] rfl ?_
      exact hI _ (g_inj hF)
  refine lpo1 FU (Int32.ofInt 0, s0) o1 ho1 ?_
  obtain ⟨t2, rfl⟩ : ∃ z, z = o1 := ⟨_, rfl⟩
  show J Γ 3 (HS κ A t2) 0 0 20 [] []
  have e : res = t2 := g_inj hF
  subst e
  exact j_vret E hQ d_c11_lays_20 (fun _ h => h)
theorem b_c11_kind_0_1 : bdec cX11_kind 0 [.aload_n 0] = true := by decide +kernel
theorem d_c11_kind_1 : decode cX11_kind 1 = .ok (.getfield 9, 3) := by decide +kernel
theorem b_c11_kind_4_5 : bdec cX11_kind 4 [.iconst 2, .iconst 3, .iload_n 1, .imul, .iadd] = true := by decide +kernel
theorem d_c11_kind_9 : decode cX11_kind 9 = .ok (.iaload, 1) := by decide +kernel
theorem d_c11_kind_10 : decode cX11_kind 10 = .ok (.ireturn, 1) := by decide +kernel
def f11_kind (s0 : HM) (a0 : Nat) (p1 : Int32) : Option (Int32) := obd (hfld s0 [11] 0 a0) (fun v1 => orf v1 (fun b2 => obd (hald s0 b2 ((Int32.ofInt 2) + ((Int32.ofInt 3) * p1))) (fun v3 => some v3)))
set_option maxRecDepth 100000 in
set_option maxHeartbeats 4000000 in
theorem c11_kind (l : Launch) (κ : KP) (A : Nat → Prop) (s0 : HM) (a0 : Nat) (p1 : Int32) {res : Int32} (hF : f11_kind s0 a0 p1 = some res) : Met l yX11_kind (Cond.code yX11_kind cX11_kind 2 (some .int) :: WT) (rmL 0 0 0) (PP κ A [.ref a0, .int p1] (HS κ A s0)) (QQ (some (.int res)) (HS κ A s0) A) 0 0 A := by
  refine met_of (own := RX11) (by decide) rfl (Nat.le_of_ble_eq_true rfl) ?_
  intro Γ E hQ hL hR hA hent hini
  have hAA : ∀ q, A q → jA Γ q := fun q h => by rw [hA]; exact h
  have hroom : ∀ (d mL : Nat) {mc ms : Nat}, d < 0 → mL ≤ 21 → (rmL d mc ms).frames + 1 ≤ (jR Γ).frames ∧ 8 + (mL + 11) + (rmL d mc ms).locals ≤ (jR Γ).locals := fun d mL mc ms h1 h2 => by rw [hR]; exact rmL_le h1 h2
  show J Γ 2 (HS κ A s0) 0 0 0 [(0, .ref a0), (1, .int p1)] []
  unfold f11_kind at hF
  refine j_blk (pc' := 1) (lv' := [(0, .ref a0), (1, .int p1)]) (st' := [.ref a0]) E b_c11_kind_0_1 rfl ?_
  replace hF := obd_at hF
  obtain ⟨v1, ev1, hF⟩ := hF
  refine j_getf E fg_RX11_9 d_c11_kind_1 ev1 ?_
  refine j_blk (pc' := 9) (lv' := [(0, .ref a0), (1, .int p1)]) (st' := [.int ((Int32.ofInt 2) + ((Int32.ofInt 3) * p1)), v1]) E b_c11_kind_4_5 rfl ?_
  replace hF := orf_at hF
  obtain ⟨b2, rfl, hF⟩ := hF
  replace hF := obd_at hF
  obtain ⟨v3, ev3, hF⟩ := hF
  refine j_iald E d_c11_kind_9 ev3 ?_
  have e : res = v3 := g_inj hF
  subst e
  exact j_iret E hQ d_c11_kind_10 (fun _ h => h)
theorem b_c11_figure_0_1 : bdec cX11_figure 0 [.aload_n 0] = true := by decide +kernel
theorem d_c11_figure_1 : decode cX11_figure 1 = .ok (.getfield 9, 3) := by decide +kernel
theorem b_c11_figure_4_7 : bdec cX11_figure 4 [.iconst 2, .iconst 3, .iload_n 1, .imul, .iadd, .iconst 1, .iadd] = true := by decide +kernel
theorem d_c11_figure_11 : decode cX11_figure 11 = .ok (.iaload, 1) := by decide +kernel
theorem d_c11_figure_12 : decode cX11_figure 12 = .ok (.ireturn, 1) := by decide +kernel
def f11_figure (s0 : HM) (a0 : Nat) (p1 : Int32) : Option (Int32) := obd (hfld s0 [11] 0 a0) (fun v1 => orf v1 (fun b2 => obd (hald s0 b2 (((Int32.ofInt 2) + ((Int32.ofInt 3) * p1)) + (Int32.ofInt 1))) (fun v3 => some v3)))
set_option maxRecDepth 100000 in
set_option maxHeartbeats 4000000 in
theorem c11_figure (l : Launch) (κ : KP) (A : Nat → Prop) (s0 : HM) (a0 : Nat) (p1 : Int32) {res : Int32} (hF : f11_figure s0 a0 p1 = some res) : Met l yX11_figure (Cond.code yX11_figure cX11_figure 2 (some .int) :: WT) (rmL 0 0 0) (PP κ A [.ref a0, .int p1] (HS κ A s0)) (QQ (some (.int res)) (HS κ A s0) A) 0 0 A := by
  refine met_of (own := RX11) (by decide) rfl (Nat.le_of_ble_eq_true rfl) ?_
  intro Γ E hQ hL hR hA hent hini
  have hAA : ∀ q, A q → jA Γ q := fun q h => by rw [hA]; exact h
  have hroom : ∀ (d mL : Nat) {mc ms : Nat}, d < 0 → mL ≤ 21 → (rmL d mc ms).frames + 1 ≤ (jR Γ).frames ∧ 8 + (mL + 11) + (rmL d mc ms).locals ≤ (jR Γ).locals := fun d mL mc ms h1 h2 => by rw [hR]; exact rmL_le h1 h2
  show J Γ 2 (HS κ A s0) 0 0 0 [(0, .ref a0), (1, .int p1)] []
  unfold f11_figure at hF
  refine j_blk (pc' := 1) (lv' := [(0, .ref a0), (1, .int p1)]) (st' := [.ref a0]) E b_c11_figure_0_1 rfl ?_
  replace hF := obd_at hF
  obtain ⟨v1, ev1, hF⟩ := hF
  refine j_getf E fg_RX11_9 d_c11_figure_1 ev1 ?_
  refine j_blk (pc' := 11) (lv' := [(0, .ref a0), (1, .int p1)]) (st' := [.int (((Int32.ofInt 2) + ((Int32.ofInt 3) * p1)) + (Int32.ofInt 1)), v1]) E b_c11_figure_4_7 rfl ?_
  replace hF := orf_at hF
  obtain ⟨b2, rfl, hF⟩ := hF
  replace hF := obd_at hF
  obtain ⟨v3, ev3, hF⟩ := hF
  refine j_iald E d_c11_figure_11 ev3 ?_
  have e : res = v3 := g_inj hF
  subst e
  exact j_iret E hQ d_c11_figure_12 (fun _ h => h)
theorem b_c11_beaten_0_1 : bdec cX11_beaten 0 [.aload_n 0] = true := by decide +kernel
theorem d_c11_beaten_1 : decode cX11_beaten 1 = .ok (.getfield 9, 3) := by decide +kernel
theorem b_c11_beaten_4_7 : bdec cX11_beaten 4 [.iconst 2, .iconst 3, .iload_n 1, .imul, .iadd, .iconst 2, .iadd] = true := by decide +kernel
theorem d_c11_beaten_11 : decode cX11_beaten 11 = .ok (.iaload, 1) := by decide +kernel
theorem d_c11_beaten_12 : decode cX11_beaten 12 = .ok (.ireturn, 1) := by decide +kernel
def f11_beaten (s0 : HM) (a0 : Nat) (p1 : Int32) : Option (Int32) := obd (hfld s0 [11] 0 a0) (fun v1 => orf v1 (fun b2 => obd (hald s0 b2 (((Int32.ofInt 2) + ((Int32.ofInt 3) * p1)) + (Int32.ofInt 2))) (fun v3 => some v3)))
set_option maxRecDepth 100000 in
set_option maxHeartbeats 4000000 in
theorem c11_beaten (l : Launch) (κ : KP) (A : Nat → Prop) (s0 : HM) (a0 : Nat) (p1 : Int32) {res : Int32} (hF : f11_beaten s0 a0 p1 = some res) : Met l yX11_beaten (Cond.code yX11_beaten cX11_beaten 2 (some .int) :: WT) (rmL 0 0 0) (PP κ A [.ref a0, .int p1] (HS κ A s0)) (QQ (some (.int res)) (HS κ A s0) A) 0 0 A := by
  refine met_of (own := RX11) (by decide) rfl (Nat.le_of_ble_eq_true rfl) ?_
  intro Γ E hQ hL hR hA hent hini
  have hAA : ∀ q, A q → jA Γ q := fun q h => by rw [hA]; exact h
  have hroom : ∀ (d mL : Nat) {mc ms : Nat}, d < 0 → mL ≤ 21 → (rmL d mc ms).frames + 1 ≤ (jR Γ).frames ∧ 8 + (mL + 11) + (rmL d mc ms).locals ≤ (jR Γ).locals := fun d mL mc ms h1 h2 => by rw [hR]; exact rmL_le h1 h2
  show J Γ 2 (HS κ A s0) 0 0 0 [(0, .ref a0), (1, .int p1)] []
  unfold f11_beaten at hF
  refine j_blk (pc' := 1) (lv' := [(0, .ref a0), (1, .int p1)]) (st' := [.ref a0]) E b_c11_beaten_0_1 rfl ?_
  replace hF := obd_at hF
  obtain ⟨v1, ev1, hF⟩ := hF
  refine j_getf E fg_RX11_9 d_c11_beaten_1 ev1 ?_
  refine j_blk (pc' := 11) (lv' := [(0, .ref a0), (1, .int p1)]) (st' := [.int (((Int32.ofInt 2) + ((Int32.ofInt 3) * p1)) + (Int32.ofInt 2)), v1]) E b_c11_beaten_4_7 rfl ?_
  replace hF := orf_at hF
  obtain ⟨b2, rfl, hF⟩ := hF
  replace hF := obd_at hF
  obtain ⟨v3, ev3, hF⟩ := hF
  refine j_iald E d_c11_beaten_11 ev3 ?_
  have e : res = v3 := g_inj hF
  subst e
  exact j_iret E hQ d_c11_beaten_12 (fun _ h => h)
theorem b_c11_puts_0_1 : bdec cX11_puts 0 [.aload_n 0] = true := by decide +kernel
theorem d_c11_puts_1 : decode cX11_puts 1 = .ok (.getfield 9, 3) := by decide +kernel
theorem b_c11_puts_4_8 : bdec cX11_puts 4 [.iconst 2, .iconst 3, .iload_n 1, .imul, .iadd, .iload_n 2, .iadd, .iload_n 3] = true := by decide +kernel
theorem d_c11_puts_12 : decode cX11_puts 12 = .ok (.iastore, 1) := by decide +kernel
theorem d_c11_puts_13 : decode cX11_puts 13 = .ok (.return_, 1) := by decide +kernel
def f11_puts (s0 : HM) (a0 : Nat) (p1 : Int32) (p2 : Int32) (p3 : Int32) : Option (HM) := obd (hfld s0 [11] 0 a0) (fun v1 => orf v1 (fun b2 => obd (hast s0 b2 (((Int32.ofInt 2) + ((Int32.ofInt 3) * p1)) + p2) p3) (fun s3 => some s3)))
set_option maxRecDepth 100000 in
set_option maxHeartbeats 4000000 in
theorem c11_puts (l : Launch) (κ : KP) (A : Nat → Prop) (s0 : HM) (a0 : Nat) (p1 : Int32) (p2 : Int32) (p3 : Int32) {res : HM} (hF : f11_puts s0 a0 p1 p2 p3 = some res) : Met l yX11_puts (Cond.code yX11_puts cX11_puts 4 none :: WT) (rmL 0 0 0) (PP κ A [.ref a0, .int p1, .int p2, .int p3] (HS κ A s0)) (QQ none (HS κ A res) A) 0 0 A := by
  refine met_of (own := RX11) (by decide) rfl (Nat.le_of_ble_eq_true rfl) ?_
  intro Γ E hQ hL hR hA hent hini
  have hAA : ∀ q, A q → jA Γ q := fun q h => by rw [hA]; exact h
  have hroom : ∀ (d mL : Nat) {mc ms : Nat}, d < 0 → mL ≤ 21 → (rmL d mc ms).frames + 1 ≤ (jR Γ).frames ∧ 8 + (mL + 11) + (rmL d mc ms).locals ≤ (jR Γ).locals := fun d mL mc ms h1 h2 => by rw [hR]; exact rmL_le h1 h2
  show J Γ 4 (HS κ A s0) 0 0 0 [(0, .ref a0), (1, .int p1), (2, .int p2), (3, .int p3)] []
  unfold f11_puts at hF
  refine j_blk (pc' := 1) (lv' := [(0, .ref a0), (1, .int p1), (2, .int p2), (3, .int p3)]) (st' := [.ref a0]) E b_c11_puts_0_1 rfl ?_
  replace hF := obd_at hF
  obtain ⟨v1, ev1, hF⟩ := hF
  refine j_getf E fg_RX11_9 d_c11_puts_1 ev1 ?_
  refine j_blk (pc' := 12) (lv' := [(0, .ref a0), (1, .int p1), (2, .int p2), (3, .int p3)]) (st' := [.int p3, .int (((Int32.ofInt 2) + ((Int32.ofInt 3) * p1)) + p2), v1]) E b_c11_puts_4_8 rfl ?_
  replace hF := orf_at hF
  obtain ⟨b2, rfl, hF⟩ := hF
  replace hF := obd_at hF
  obtain ⟨s3, es3, hF⟩ := hF
  refine j_iast E d_c11_puts_12 es3 hAA ?_
  have e : res = s3 := g_inj hF
  subst e
  exact j_vret E hQ d_c11_puts_13 (fun _ h => h)
theorem b_c11_bits_0_4 : bdec cX11_bits 0 [.iconst 0, .istore_n 1, .iload_n 0, .istore_n 2] = true := by decide +kernel
theorem b_c11_bits_4_1 : bdec cX11_bits 4 [.iload_n 2] = true := by decide +kernel
theorem d_c11_bits_5 : decode cX11_bits 5 = .ok (.ifCond .le 16, 3) := by decide +kernel
theorem b_c11_bits_8_10 : bdec cX11_bits 8 [.iload_n 1, .iload_n 2, .iconst 1, .iand, .iadd, .istore_n 1, .iload_n 2, .iconst 1, .ishr, .istore_n 2] = true := by decide +kernel
theorem d_c11_bits_18 : decode cX11_bits 18 = .ok (.goto (-14), 3) := by decide +kernel
theorem b_c11_bits_21_1 : bdec cX11_bits 21 [.iload_n 1] = true := by decide +kernel
theorem d_c11_bits_22 : decode cX11_bits 22 = .ok (.ireturn, 1) := by decide +kernel
def f11_bits_L4  (w : Int32 × Int32) : Option ((Int32 × Int32) ⊕ (Int32)) := match w with
  | (x4_1, x4_2) => if x4_2 ≤ 0 then (some (.inr x4_1)) else (some (.inl (x4_1 + (x4_2 &&& (Int32.ofInt 1)), x4_2 >>> ((Int32.ofInt 1) &&& 31))))
def f11_bits (p0 : Int32) : Option (Int32) := obd (iter (f11_bits_L4) FU (Int32.ofInt 0, p0)) (fun o1 => match o1 with | e4_1 => some e4_1)
set_option maxRecDepth 100000 in
set_option maxHeartbeats 4000000 in
theorem c11_bits (l : Launch) (κ : KP) (A : Nat → Prop) (HP : Heap → Prop) (p0 : Int32) {res : Int32} (hF : f11_bits p0 = some res) : Met l yX11_bits (Cond.code yX11_bits cX11_bits 3 (some .int) :: WT) (rmL 0 0 0) (PP κ A [.int p0] HP) (QQ (some (.int res)) HP A) 0 0 A := by
  refine met_of (own := RX11) (by decide) rfl (Nat.le_of_ble_eq_true rfl) ?_
  intro Γ E hQ hL hR hA hent hini
  have hAA : ∀ q, A q → jA Γ q := fun q h => by rw [hA]; exact h
  have hroom : ∀ (d mL : Nat) {mc ms : Nat}, d < 0 → mL ≤ 21 → (rmL d mc ms).frames + 1 ≤ (jR Γ).frames ∧ 8 + (mL + 11) + (rmL d mc ms).locals ≤ (jR Γ).locals := fun d mL mc ms h1 h2 => by rw [hR]; exact rmL_le h1 h2
  show J Γ 3 HP 0 0 0 [(0, .int p0)] []
  unfold f11_bits at hF
  refine j_blk (pc' := 4) (lv' := [(2, .int p0), (1, .int (Int32.ofInt 0)), (0, .int p0)]) (st' := []) E b_c11_bits_0_4 rfl ?_
  refine j_lv [1, 0] rfl ?_
  replace hF := obd_at hF
  obtain ⟨o1, ho1, hF⟩ := hF
  have lpo1 : ∀ (fu : Nat) (w : Int32 × Int32) (o : Int32), iter (f11_bits_L4) fu w = some o → (fun (o : Int32) => J Γ 3 HP 0 0 21 [(1, .int o)] []) o → (fun (w : Int32 × Int32) => J Γ 3 HP 0 0 4 [(1, .int w.1), (2, .int w.2)] []) w := by
    refine j_iter (P := fun (w : Int32 × Int32) => J Γ 3 HP 0 0 4 [(1, .int w.1), (2, .int w.2)] []) (G := fun (o : Int32) => J Γ 3 HP 0 0 21 [(1, .int o)] []) ?_
    rintro ⟨x4_1, x4_2⟩ q hF hI hO
    show J Γ 3 HP 0 0 4 [(1, .int x4_1), (2, .int x4_2)] []
    unfold f11_bits_L4 at hF
    refine j_blk (pc' := 5) (lv' := [(1, .int x4_1), (2, .int x4_2)]) (st' := [.int x4_2]) E b_c11_bits_4_1 rfl ?_
    refine j_if_le (tgt := 21) E d_c11_bits_5 (by decide) (fun h2 => ?_) (fun h2 => ?_)
    · replace hF := g_t hF h2
      refine j_lv [0] rfl ?_
      exact hO _ (g_inj hF)
    · replace hF := g_f hF h2
      refine j_blk (pc' := 18) (lv' := [(2, .int (x4_2 >>> ((Int32.ofInt 1) &&& 31))), (1, .int (x4_1 + (x4_2 &&& (Int32.ofInt 1))))]) (st' := []) E b_c11_bits_8_10 rfl ?_
      refine j_goto (tgt := 4) E d_c11_bits_18 (by decide) ?_
      refine j_lv [1, 0] rfl ?_
      exact hI _ (g_inj hF)
  refine lpo1 FU (Int32.ofInt 0, p0) o1 ho1 ?_
  obtain ⟨e4_1, rfl⟩ : ∃ z, z = o1 := ⟨_, rfl⟩
  show J Γ 3 HP 0 0 21 [(1, .int e4_1)] []
  refine j_blk (pc' := 22) (lv' := [(1, .int e4_1)]) (st' := [.int e4_1]) E b_c11_bits_21_1 rfl ?_
  have e : res = e4_1 := g_inj hF
  subst e
  exact j_iret E hQ d_c11_bits_22 (fun _ h => h)
theorem b_c11_skillBy_0_1 : bdec cX11_skillBy 0 [.iload_n 0] = true := by decide +kernel
theorem d_c11_skillBy_1 : decode cX11_skillBy 1 = .ok (.tableswitch 66 1 7 #[43, 66, 49, 53, 59, 49, 61], 43) := by decide +kernel
theorem b_c11_skillBy_44_5 : bdec cX11_skillBy 44 [.iconst 2, .iload_n 1, .iconst 1, .iadd, .imul] = true := by decide +kernel
theorem d_c11_skillBy_49 : decode cX11_skillBy 49 = .ok (.ireturn, 1) := by decide +kernel
theorem b_c11_skillBy_67_3 : bdec cX11_skillBy 67 [.iload_n 1, .iconst 1, .iadd] = true := by decide +kernel
theorem d_c11_skillBy_70 : decode cX11_skillBy 70 = .ok (.ireturn, 1) := by decide +kernel
theorem b_c11_skillBy_50_3 : bdec cX11_skillBy 50 [.iload_n 1, .iconst 4, .iadd] = true := by decide +kernel
theorem d_c11_skillBy_53 : decode cX11_skillBy 53 = .ok (.ireturn, 1) := by decide +kernel
theorem b_c11_skillBy_54_5 : bdec cX11_skillBy 54 [.iconst 2, .iload_n 1, .imul, .iconst 1, .iadd] = true := by decide +kernel
theorem d_c11_skillBy_59 : decode cX11_skillBy 59 = .ok (.ireturn, 1) := by decide +kernel
theorem b_c11_skillBy_60_1 : bdec cX11_skillBy 60 [.iconst 1] = true := by decide +kernel
theorem d_c11_skillBy_61 : decode cX11_skillBy 61 = .ok (.ireturn, 1) := by decide +kernel
theorem b_c11_skillBy_62_3 : bdec cX11_skillBy 62 [.iload_n 1, .bipush 10, .iadd] = true := by decide +kernel
theorem d_c11_skillBy_66 : decode cX11_skillBy 66 = .ok (.ireturn, 1) := by decide +kernel
def f11_skillBy (p0 : Int32) (p1 : Int32) : Option (Int32) := if p0 = 1 then (some ((Int32.ofInt 2) * (p1 + (Int32.ofInt 1)))) else (if p0 = 2 then (some (p1 + (Int32.ofInt 1))) else (if p0 = 3 then (some (p1 + (Int32.ofInt 4))) else (if p0 = 4 then (some (((Int32.ofInt 2) * p1) + (Int32.ofInt 1))) else (if p0 = 5 then (some (Int32.ofInt 1)) else (if p0 = 6 then (some (p1 + (Int32.ofInt 4))) else (if p0 = 7 then (some (p1 + ((Int8.ofInt 10).toInt32))) else (some (p1 + (Int32.ofInt 1)))))))))
set_option maxRecDepth 100000 in
set_option maxHeartbeats 4000000 in
theorem c11_skillBy (l : Launch) (κ : KP) (A : Nat → Prop) (HP : Heap → Prop) (p0 : Int32) (p1 : Int32) {res : Int32} (hF : f11_skillBy p0 p1 = some res) : Met l yX11_skillBy (Cond.code yX11_skillBy cX11_skillBy 2 (some .int) :: WT) (rmL 0 0 0) (PP κ A [.int p0, .int p1] HP) (QQ (some (.int res)) HP A) 0 0 A := by
  refine met_of (own := RX11) (by decide) rfl (Nat.le_of_ble_eq_true rfl) ?_
  intro Γ E hQ hL hR hA hent hini
  have hAA : ∀ q, A q → jA Γ q := fun q h => by rw [hA]; exact h
  have hroom : ∀ (d mL : Nat) {mc ms : Nat}, d < 0 → mL ≤ 21 → (rmL d mc ms).frames + 1 ≤ (jR Γ).frames ∧ 8 + (mL + 11) + (rmL d mc ms).locals ≤ (jR Γ).locals := fun d mL mc ms h1 h2 => by rw [hR]; exact rmL_le h1 h2
  show J Γ 2 HP 0 0 0 [(0, .int p0), (1, .int p1)] []
  unfold f11_skillBy at hF
  refine j_blk (pc' := 1) (lv' := [(0, .int p0), (1, .int p1)]) (st' := [.int p0]) E b_c11_skillBy_0_1 rfl ?_
  rcases Decidable.em (p0 = 1) with h1 | h1
  · replace hF := g_t hF h1
    refine j_tin (tgt := 44) (off := 43) E d_c11_skillBy_1 h1 (by decide) (by decide) (by decide) (by decide) ?_
    refine j_blk (pc' := 49) (lv' := [(0, .int p0), (1, .int p1)]) (st' := [.int ((Int32.ofInt 2) * (p1 + (Int32.ofInt 1)))]) E b_c11_skillBy_44_5 rfl ?_
    have e : res = (Int32.ofInt 2) * (p1 + (Int32.ofInt 1)) := g_inj hF
    subst e
    exact j_iret E hQ d_c11_skillBy_49 (fun _ h => h)
  · replace hF := g_f hF h1
    rcases Decidable.em (p0 = 2) with h2 | h2
    · replace hF := g_t hF h2
      refine j_tin (tgt := 67) (off := 66) E d_c11_skillBy_1 h2 (by decide) (by decide) (by decide) (by decide) ?_
      refine j_blk (pc' := 70) (lv' := [(0, .int p0), (1, .int p1)]) (st' := [.int (p1 + (Int32.ofInt 1))]) E b_c11_skillBy_67_3 rfl ?_
      have e : res = p1 + (Int32.ofInt 1) := g_inj hF
      subst e
      exact j_iret E hQ d_c11_skillBy_70 (fun _ h => h)
    · replace hF := g_f hF h2
      rcases Decidable.em (p0 = 3) with h3 | h3
      · replace hF := g_t hF h3
        refine j_tin (tgt := 50) (off := 49) E d_c11_skillBy_1 h3 (by decide) (by decide) (by decide) (by decide) ?_
        refine j_blk (pc' := 53) (lv' := [(0, .int p0), (1, .int p1)]) (st' := [.int (p1 + (Int32.ofInt 4))]) E b_c11_skillBy_50_3 rfl ?_
        have e : res = p1 + (Int32.ofInt 4) := g_inj hF
        subst e
        exact j_iret E hQ d_c11_skillBy_53 (fun _ h => h)
      · replace hF := g_f hF h3
        rcases Decidable.em (p0 = 4) with h4 | h4
        · replace hF := g_t hF h4
          refine j_tin (tgt := 54) (off := 53) E d_c11_skillBy_1 h4 (by decide) (by decide) (by decide) (by decide) ?_
          refine j_blk (pc' := 59) (lv' := [(0, .int p0), (1, .int p1)]) (st' := [.int (((Int32.ofInt 2) * p1) + (Int32.ofInt 1))]) E b_c11_skillBy_54_5 rfl ?_
          have e : res = ((Int32.ofInt 2) * p1) + (Int32.ofInt 1) := g_inj hF
          subst e
          exact j_iret E hQ d_c11_skillBy_59 (fun _ h => h)
        · replace hF := g_f hF h4
          rcases Decidable.em (p0 = 5) with h5 | h5
          · replace hF := g_t hF h5
            refine j_tin (tgt := 60) (off := 59) E d_c11_skillBy_1 h5 (by decide) (by decide) (by decide) (by decide) ?_
            refine j_blk (pc' := 61) (lv' := [(0, .int p0), (1, .int p1)]) (st' := [.int (Int32.ofInt 1)]) E b_c11_skillBy_60_1 rfl ?_
            have e : res = Int32.ofInt 1 := g_inj hF
            subst e
            exact j_iret E hQ d_c11_skillBy_61 (fun _ h => h)
          · replace hF := g_f hF h5
            rcases Decidable.em (p0 = 6) with h6 | h6
            · replace hF := g_t hF h6
              refine j_tin (tgt := 50) (off := 49) E d_c11_skillBy_1 h6 (by decide) (by decide) (by decide) (by decide) ?_
              refine j_blk (pc' := 53) (lv' := [(0, .int p0), (1, .int p1)]) (st' := [.int (p1 + (Int32.ofInt 4))]) E b_c11_skillBy_50_3 rfl ?_
              have e : res = p1 + (Int32.ofInt 4) := g_inj hF
              subst e
              exact j_iret E hQ d_c11_skillBy_53 (fun _ h => h)
            · replace hF := g_f hF h6
              rcases Decidable.em (p0 = 7) with h7 | h7
              · replace hF := g_t hF h7
                refine j_tin (tgt := 62) (off := 61) E d_c11_skillBy_1 h7 (by decide) (by decide) (by decide) (by decide) ?_
                refine j_blk (pc' := 66) (lv' := [(0, .int p0), (1, .int p1)]) (st' := [.int (p1 + ((Int8.ofInt 10).toInt32))]) E b_c11_skillBy_62_3 rfl ?_
                have e : res = p1 + ((Int8.ofInt 10).toInt32) := g_inj hF
                subst e
                exact j_iret E hQ d_c11_skillBy_66 (fun _ h => h)
              · replace hF := g_f hF h7
                have h1 := lv_neT h1 (a := 1) (by decide)
                have h2 := lv_neT h2 (a := 2) (by decide)
                have h3 := lv_neT h3 (a := 3) (by decide)
                have h4 := lv_neT h4 (a := 4) (by decide)
                have h5 := lv_neT h5 (a := 5) (by decide)
                have h6 := lv_neT h6 (a := 6) (by decide)
                have h7 := lv_neT h7 (a := 7) (by decide)
                refine j_tout (tgt := 67) E d_c11_skillBy_1 (by omega) (by decide) ?_
                refine j_blk (pc' := 70) (lv' := [(0, .int p0), (1, .int p1)]) (st' := [.int (p1 + (Int32.ofInt 1))]) E b_c11_skillBy_67_3 rfl ?_
                have e : res = p1 + (Int32.ofInt 1) := g_inj hF
                subst e
                exact j_iret E hQ d_c11_skillBy_70 (fun _ h => h)
theorem b_c11_priceBy_0_1 : bdec cX11_priceBy 0 [.iload_n 0] = true := by decide +kernel
theorem d_c11_priceBy_1 : decode cX11_priceBy 1 = .ok (.tableswitch 66 1 7 #[43, 47, 49, 52, 56, 60, 63], 43) := by decide +kernel
theorem b_c11_priceBy_44_3 : bdec cX11_priceBy 44 [.iconst 3, .iload_n 1, .iadd] = true := by decide +kernel
theorem d_c11_priceBy_47 : decode cX11_priceBy 47 = .ok (.ireturn, 1) := by decide +kernel
theorem b_c11_priceBy_48_1 : bdec cX11_priceBy 48 [.iconst 1] = true := by decide +kernel
theorem d_c11_priceBy_49 : decode cX11_priceBy 49 = .ok (.ireturn, 1) := by decide +kernel
theorem b_c11_priceBy_50_1 : bdec cX11_priceBy 50 [.bipush 6] = true := by decide +kernel
theorem d_c11_priceBy_52 : decode cX11_priceBy 52 = .ok (.ireturn, 1) := by decide +kernel
theorem b_c11_priceBy_53_3 : bdec cX11_priceBy 53 [.iconst 2, .iload_n 1, .iadd] = true := by decide +kernel
theorem d_c11_priceBy_56 : decode cX11_priceBy 56 = .ok (.ireturn, 1) := by decide +kernel
theorem b_c11_priceBy_57_3 : bdec cX11_priceBy 57 [.iload_n 1, .iconst 1, .iadd] = true := by decide +kernel
theorem d_c11_priceBy_60 : decode cX11_priceBy 60 = .ok (.ireturn, 1) := by decide +kernel
theorem b_c11_priceBy_61_1 : bdec cX11_priceBy 61 [.bipush 11] = true := by decide +kernel
theorem d_c11_priceBy_63 : decode cX11_priceBy 63 = .ok (.ireturn, 1) := by decide +kernel
theorem b_c11_priceBy_64_1 : bdec cX11_priceBy 64 [.bipush 12] = true := by decide +kernel
theorem d_c11_priceBy_66 : decode cX11_priceBy 66 = .ok (.ireturn, 1) := by decide +kernel
theorem b_c11_priceBy_67_1 : bdec cX11_priceBy 67 [.iconst 3] = true := by decide +kernel
theorem d_c11_priceBy_68 : decode cX11_priceBy 68 = .ok (.ireturn, 1) := by decide +kernel
def f11_priceBy (p0 : Int32) (p1 : Int32) : Option (Int32) := if p0 = 1 then (some ((Int32.ofInt 3) + p1)) else (if p0 = 2 then (some (Int32.ofInt 1)) else (if p0 = 3 then (some ((Int8.ofInt 6).toInt32)) else (if p0 = 4 then (some ((Int32.ofInt 2) + p1)) else (if p0 = 5 then (some (p1 + (Int32.ofInt 1))) else (if p0 = 6 then (some ((Int8.ofInt 11).toInt32)) else (if p0 = 7 then (some ((Int8.ofInt 12).toInt32)) else (some (Int32.ofInt 3))))))))
set_option maxRecDepth 100000 in
set_option maxHeartbeats 4000000 in
theorem c11_priceBy (l : Launch) (κ : KP) (A : Nat → Prop) (HP : Heap → Prop) (p0 : Int32) (p1 : Int32) {res : Int32} (hF : f11_priceBy p0 p1 = some res) : Met l yX11_priceBy (Cond.code yX11_priceBy cX11_priceBy 2 (some .int) :: WT) (rmL 0 0 0) (PP κ A [.int p0, .int p1] HP) (QQ (some (.int res)) HP A) 0 0 A := by
  refine met_of (own := RX11) (by decide) rfl (Nat.le_of_ble_eq_true rfl) ?_
  intro Γ E hQ hL hR hA hent hini
  have hAA : ∀ q, A q → jA Γ q := fun q h => by rw [hA]; exact h
  have hroom : ∀ (d mL : Nat) {mc ms : Nat}, d < 0 → mL ≤ 21 → (rmL d mc ms).frames + 1 ≤ (jR Γ).frames ∧ 8 + (mL + 11) + (rmL d mc ms).locals ≤ (jR Γ).locals := fun d mL mc ms h1 h2 => by rw [hR]; exact rmL_le h1 h2
  show J Γ 2 HP 0 0 0 [(0, .int p0), (1, .int p1)] []
  unfold f11_priceBy at hF
  refine j_blk (pc' := 1) (lv' := [(0, .int p0), (1, .int p1)]) (st' := [.int p0]) E b_c11_priceBy_0_1 rfl ?_
  rcases Decidable.em (p0 = 1) with h1 | h1
  · replace hF := g_t hF h1
    refine j_tin (tgt := 44) (off := 43) E d_c11_priceBy_1 h1 (by decide) (by decide) (by decide) (by decide) ?_
    refine j_blk (pc' := 47) (lv' := [(0, .int p0), (1, .int p1)]) (st' := [.int ((Int32.ofInt 3) + p1)]) E b_c11_priceBy_44_3 rfl ?_
    have e : res = (Int32.ofInt 3) + p1 := g_inj hF
    subst e
    exact j_iret E hQ d_c11_priceBy_47 (fun _ h => h)
  · replace hF := g_f hF h1
    rcases Decidable.em (p0 = 2) with h2 | h2
    · replace hF := g_t hF h2
      refine j_tin (tgt := 48) (off := 47) E d_c11_priceBy_1 h2 (by decide) (by decide) (by decide) (by decide) ?_
      refine j_blk (pc' := 49) (lv' := [(0, .int p0), (1, .int p1)]) (st' := [.int (Int32.ofInt 1)]) E b_c11_priceBy_48_1 rfl ?_
      have e : res = Int32.ofInt 1 := g_inj hF
      subst e
      exact j_iret E hQ d_c11_priceBy_49 (fun _ h => h)
    · replace hF := g_f hF h2
      rcases Decidable.em (p0 = 3) with h3 | h3
      · replace hF := g_t hF h3
        refine j_tin (tgt := 50) (off := 49) E d_c11_priceBy_1 h3 (by decide) (by decide) (by decide) (by decide) ?_
        refine j_blk (pc' := 52) (lv' := [(0, .int p0), (1, .int p1)]) (st' := [.int ((Int8.ofInt 6).toInt32)]) E b_c11_priceBy_50_1 rfl ?_
        have e : res = (Int8.ofInt 6).toInt32 := g_inj hF
        subst e
        exact j_iret E hQ d_c11_priceBy_52 (fun _ h => h)
      · replace hF := g_f hF h3
        rcases Decidable.em (p0 = 4) with h4 | h4
        · replace hF := g_t hF h4
          refine j_tin (tgt := 53) (off := 52) E d_c11_priceBy_1 h4 (by decide) (by decide) (by decide) (by decide) ?_
          refine j_blk (pc' := 56) (lv' := [(0, .int p0), (1, .int p1)]) (st' := [.int ((Int32.ofInt 2) + p1)]) E b_c11_priceBy_53_3 rfl ?_
          have e : res = (Int32.ofInt 2) + p1 := g_inj hF
          subst e
          exact j_iret E hQ d_c11_priceBy_56 (fun _ h => h)
        · replace hF := g_f hF h4
          rcases Decidable.em (p0 = 5) with h5 | h5
          · replace hF := g_t hF h5
            refine j_tin (tgt := 57) (off := 56) E d_c11_priceBy_1 h5 (by decide) (by decide) (by decide) (by decide) ?_
            refine j_blk (pc' := 60) (lv' := [(0, .int p0), (1, .int p1)]) (st' := [.int (p1 + (Int32.ofInt 1))]) E b_c11_priceBy_57_3 rfl ?_
            have e : res = p1 + (Int32.ofInt 1) := g_inj hF
            subst e
            exact j_iret E hQ d_c11_priceBy_60 (fun _ h => h)
          · replace hF := g_f hF h5
            rcases Decidable.em (p0 = 6) with h6 | h6
            · replace hF := g_t hF h6
              refine j_tin (tgt := 61) (off := 60) E d_c11_priceBy_1 h6 (by decide) (by decide) (by decide) (by decide) ?_
              refine j_blk (pc' := 63) (lv' := [(0, .int p0), (1, .int p1)]) (st' := [.int ((Int8.ofInt 11).toInt32)]) E b_c11_priceBy_61_1 rfl ?_
              have e : res = (Int8.ofInt 11).toInt32 := g_inj hF
              subst e
              exact j_iret E hQ d_c11_priceBy_63 (fun _ h => h)
            · replace hF := g_f hF h6
              rcases Decidable.em (p0 = 7) with h7 | h7
              · replace hF := g_t hF h7
                refine j_tin (tgt := 64) (off := 63) E d_c11_priceBy_1 h7 (by decide) (by decide) (by decide) (by decide) ?_
                refine j_blk (pc' := 66) (lv' := [(0, .int p0), (1, .int p1)]) (st' := [.int ((Int8.ofInt 12).toInt32)]) E b_c11_priceBy_64_1 rfl ?_
                have e : res = (Int8.ofInt 12).toInt32 := g_inj hF
                subst e
                exact j_iret E hQ d_c11_priceBy_66 (fun _ h => h)
              · replace hF := g_f hF h7
                have h1 := lv_neT h1 (a := 1) (by decide)
                have h2 := lv_neT h2 (a := 2) (by decide)
                have h3 := lv_neT h3 (a := 3) (by decide)
                have h4 := lv_neT h4 (a := 4) (by decide)
                have h5 := lv_neT h5 (a := 5) (by decide)
                have h6 := lv_neT h6 (a := 6) (by decide)
                have h7 := lv_neT h7 (a := 7) (by decide)
                refine j_tout (tgt := 67) E d_c11_priceBy_1 (by omega) (by decide) ?_
                refine j_blk (pc' := 68) (lv' := [(0, .int p0), (1, .int p1)]) (st' := [.int (Int32.ofInt 3)]) E b_c11_priceBy_67_1 rfl ?_
                have e : res = Int32.ofInt 3 := g_inj hF
                subst e
                exact j_iret E hQ d_c11_priceBy_68 (fun _ h => h)
theorem b_c11_here_0_1 : bdec cX11_here 0 [.aload_n 0] = true := by decide +kernel
theorem d_c11_here_1 : decode cX11_here 1 = .ok (.getfield 94, 3) := by decide +kernel
theorem b_c11_here_4_1 : bdec cX11_here 4 [.aload_n 0] = true := by decide +kernel
theorem d_c11_here_5 : decode cX11_here 5 = .ok (.getfield 97, 3) := by decide +kernel
theorem d_c11_here_8 : decode cX11_here 8 = .ok (.if_icmp .ge 20, 3) := by decide +kernel
theorem b_c11_here_28_1 : bdec cX11_here 28 [.sipush (-1000)] = true := by decide +kernel
theorem d_c11_here_31 : decode cX11_here 31 = .ok (.ireturn, 1) := by decide +kernel
theorem b_c11_here_11_1 : bdec cX11_here 11 [.aload_n 0] = true := by decide +kernel
theorem d_c11_here_12 : decode cX11_here 12 = .ok (.getfield 31, 3) := by decide +kernel
theorem b_c11_here_15_1 : bdec cX11_here 15 [.aload_n 0] = true := by decide +kernel
theorem d_c11_here_16 : decode cX11_here 16 = .ok (.getfield 100, 3) := by decide +kernel
theorem b_c11_here_19_1 : bdec cX11_here 19 [.aload_n 0] = true := by decide +kernel
theorem d_c11_here_20 : decode cX11_here 20 = .ok (.getfield 94, 3) := by decide +kernel
theorem b_c11_here_23_1 : bdec cX11_here 23 [.iadd] = true := by decide +kernel
theorem d_c11_here_24 : decode cX11_here 24 = .ok (.iaload, 1) := by decide +kernel
theorem d_c11_here_25 : decode cX11_here 25 = .ok (.goto 6, 3) := by decide +kernel
def f11_here (s0 : HM) (a0 : Nat) : Option (Int32) := obd (hfi s0 [11] 12 a0) (fun v1 => obd (hfi s0 [11] 14 a0) (fun v2 => if v2 ≤ v1 then (some ((Int16.ofInt (-1000)).toInt32)) else (obd (hfld s0 [11] 7 a0) (fun v4 => obd (hfi s0 [11] 13 a0) (fun v5 => obd (hfi s0 [11] 12 a0) (fun v6 => orf v4 (fun b7 => obd (hald s0 b7 (v5 + v6)) (fun v8 => some v8))))))))
set_option maxRecDepth 100000 in
set_option maxHeartbeats 4000000 in
theorem c11_here (l : Launch) (κ : KP) (A : Nat → Prop) (s0 : HM) (a0 : Nat) {res : Int32} (hF : f11_here s0 a0 = some res) : Met l yX11_here (Cond.code yX11_here cX11_here 1 (some .int) :: WT) (rmL 0 0 0) (PP κ A [.ref a0] (HS κ A s0)) (QQ (some (.int res)) (HS κ A s0) A) 0 0 A := by
  refine met_of (own := RX11) (by decide) rfl (Nat.le_of_ble_eq_true rfl) ?_
  intro Γ E hQ hL hR hA hent hini
  have hAA : ∀ q, A q → jA Γ q := fun q h => by rw [hA]; exact h
  have hroom : ∀ (d mL : Nat) {mc ms : Nat}, d < 0 → mL ≤ 21 → (rmL d mc ms).frames + 1 ≤ (jR Γ).frames ∧ 8 + (mL + 11) + (rmL d mc ms).locals ≤ (jR Γ).locals := fun d mL mc ms h1 h2 => by rw [hR]; exact rmL_le h1 h2
  show J Γ 1 (HS κ A s0) 0 0 0 [(0, .ref a0)] []
  unfold f11_here at hF
  refine j_blk (pc' := 1) (lv' := [(0, .ref a0)]) (st' := [.ref a0]) E b_c11_here_0_1 rfl ?_
  replace hF := obd_at hF
  obtain ⟨v1, ev1, hF⟩ := hF
  refine j_getI E fg_RX11_94 d_c11_here_1 ev1 ?_
  refine j_blk (pc' := 5) (lv' := [(0, .ref a0)]) (st' := [.ref a0, .int v1]) E b_c11_here_4_1 rfl ?_
  replace hF := obd_at hF
  obtain ⟨v2, ev2, hF⟩ := hF
  refine j_getI E fg_RX11_97 d_c11_here_5 ev2 ?_
  refine j_icmp_ge (tgt := 28) E d_c11_here_8 (by decide) (fun h3 => ?_) (fun h3 => ?_)
  · replace hF := g_t hF h3
    refine j_blk (pc' := 31) (lv' := [(0, .ref a0)]) (st' := [.int ((Int16.ofInt (-1000)).toInt32)]) E b_c11_here_28_1 rfl ?_
    have e : res = (Int16.ofInt (-1000)).toInt32 := g_inj hF
    subst e
    exact j_iret E hQ d_c11_here_31 (fun _ h => h)
  · replace hF := g_f hF h3
    refine j_blk (pc' := 12) (lv' := [(0, .ref a0)]) (st' := [.ref a0]) E b_c11_here_11_1 rfl ?_
    replace hF := obd_at hF
    obtain ⟨v4, ev4, hF⟩ := hF
    refine j_getf E fg_RX11_31 d_c11_here_12 ev4 ?_
    refine j_blk (pc' := 16) (lv' := [(0, .ref a0)]) (st' := [.ref a0, v4]) E b_c11_here_15_1 rfl ?_
    replace hF := obd_at hF
    obtain ⟨v5, ev5, hF⟩ := hF
    refine j_getI E fg_RX11_100 d_c11_here_16 ev5 ?_
    refine j_blk (pc' := 20) (lv' := [(0, .ref a0)]) (st' := [.ref a0, .int v5, v4]) E b_c11_here_19_1 rfl ?_
    replace hF := obd_at hF
    obtain ⟨v6, ev6, hF⟩ := hF
    refine j_getI E fg_RX11_94 d_c11_here_20 ev6 ?_
    refine j_blk (pc' := 24) (lv' := [(0, .ref a0)]) (st' := [.int (v5 + v6), v4]) E b_c11_here_23_1 rfl ?_
    replace hF := orf_at hF
    obtain ⟨b7, rfl, hF⟩ := hF
    replace hF := obd_at hF
    obtain ⟨v8, ev8, hF⟩ := hF
    refine j_iald E d_c11_here_24 ev8 ?_
    refine j_goto (tgt := 31) E d_c11_here_25 (by decide) ?_
    have e : res = v8 := g_inj hF
    subst e
    exact j_iret E hQ d_c11_here_31 (fun _ h => h)
theorem b_c11_matches_0_1 : bdec cX11_matches 0 [.aload_n 0] = true := by decide +kernel
theorem d_c11_matches_1 : decode cX11_matches 1 = .ok (.getfield 9, 3) := by decide +kernel
theorem b_c11_matches_4_1 : bdec cX11_matches 4 [.iconst 0] = true := by decide +kernel
theorem d_c11_matches_5 : decode cX11_matches 5 = .ok (.iaload, 1) := by decide +kernel
theorem b_c11_matches_6_1 : bdec cX11_matches 6 [.aload_n 0] = true := by decide +kernel
theorem d_c11_matches_7 : decode cX11_matches 7 = .ok (.getfield 9, 3) := by decide +kernel
theorem b_c11_matches_10_1 : bdec cX11_matches 10 [.iconst 0] = true := by decide +kernel
theorem d_c11_matches_11 : decode cX11_matches 11 = .ok (.iaload, 1) := by decide +kernel
theorem b_c11_matches_12_4 : bdec cX11_matches 12 [.iconst 1, .isub, .imul, .iconst 2] = true := by decide +kernel
theorem d_c11_matches_16 : decode cX11_matches 16 = .ok (.idiv, 1) := by decide +kernel
theorem d_c11_matches_17 : decode cX11_matches 17 = .ok (.ireturn, 1) := by decide +kernel
def f11_matches (s0 : HM) (a0 : Nat) : Option (Int32) := obd (hfld s0 [11] 0 a0) (fun v1 => orf v1 (fun b2 => obd (hald s0 b2 (Int32.ofInt 0)) (fun v3 => obd (hfld s0 [11] 0 a0) (fun v4 => orf v4 (fun b5 => obd (hald s0 b5 (Int32.ofInt 0)) (fun v6 => onz (Int32.ofInt 2) (some ((v3 * (v6 - (Int32.ofInt 1))) / (Int32.ofInt 2)))))))))
set_option maxRecDepth 100000 in
set_option maxHeartbeats 4000000 in
theorem c11_matches (l : Launch) (κ : KP) (A : Nat → Prop) (s0 : HM) (a0 : Nat) {res : Int32} (hF : f11_matches s0 a0 = some res) : Met l yX11_matches (Cond.code yX11_matches cX11_matches 1 (some .int) :: WT) (rmL 0 0 0) (PP κ A [.ref a0] (HS κ A s0)) (QQ (some (.int res)) (HS κ A s0) A) 0 0 A := by
  refine met_of (own := RX11) (by decide) rfl (Nat.le_of_ble_eq_true rfl) ?_
  intro Γ E hQ hL hR hA hent hini
  have hAA : ∀ q, A q → jA Γ q := fun q h => by rw [hA]; exact h
  have hroom : ∀ (d mL : Nat) {mc ms : Nat}, d < 0 → mL ≤ 21 → (rmL d mc ms).frames + 1 ≤ (jR Γ).frames ∧ 8 + (mL + 11) + (rmL d mc ms).locals ≤ (jR Γ).locals := fun d mL mc ms h1 h2 => by rw [hR]; exact rmL_le h1 h2
  show J Γ 1 (HS κ A s0) 0 0 0 [(0, .ref a0)] []
  unfold f11_matches at hF
  refine j_blk (pc' := 1) (lv' := [(0, .ref a0)]) (st' := [.ref a0]) E b_c11_matches_0_1 rfl ?_
  replace hF := obd_at hF
  obtain ⟨v1, ev1, hF⟩ := hF
  refine j_getf E fg_RX11_9 d_c11_matches_1 ev1 ?_
  refine j_blk (pc' := 5) (lv' := [(0, .ref a0)]) (st' := [.int (Int32.ofInt 0), v1]) E b_c11_matches_4_1 rfl ?_
  replace hF := orf_at hF
  obtain ⟨b2, rfl, hF⟩ := hF
  replace hF := obd_at hF
  obtain ⟨v3, ev3, hF⟩ := hF
  refine j_iald E d_c11_matches_5 ev3 ?_
  refine j_blk (pc' := 7) (lv' := [(0, .ref a0)]) (st' := [.ref a0, .int v3]) E b_c11_matches_6_1 rfl ?_
  replace hF := obd_at hF
  obtain ⟨v4, ev4, hF⟩ := hF
  refine j_getf E fg_RX11_9 d_c11_matches_7 ev4 ?_
  refine j_blk (pc' := 11) (lv' := [(0, .ref a0)]) (st' := [.int (Int32.ofInt 0), v4, .int v3]) E b_c11_matches_10_1 rfl ?_
  replace hF := orf_at hF
  obtain ⟨b5, rfl, hF⟩ := hF
  replace hF := obd_at hF
  obtain ⟨v6, ev6, hF⟩ := hF
  refine j_iald E d_c11_matches_11 ev6 ?_
  refine j_blk (pc' := 16) (lv' := [(0, .ref a0)]) (st' := [.int (Int32.ofInt 2), .int (v3 * (v6 - (Int32.ofInt 1)))]) E b_c11_matches_12_4 rfl ?_
  replace hF := onz_at hF
  obtain ⟨h0, hF⟩ := hF
  refine j_idiv E d_c11_matches_16 h0 ?_
  have e : res = (v3 * (v6 - (Int32.ofInt 1))) / (Int32.ofInt 2) := g_inj hF
  subst e
  exact j_iret E hQ d_c11_matches_17 (fun _ h => h)
theorem b_c11_isSet_0_1 : bdec cX11_isSet 0 [.iload_n 1] = true := by decide +kernel
theorem d_c11_isSet_1 : decode cX11_isSet 1 = .ok (.ifCond .lt 17, 3) := by decide +kernel
theorem b_c11_isSet_18_1 : bdec cX11_isSet 18 [.iconst 0] = true := by decide +kernel
theorem d_c11_isSet_19 : decode cX11_isSet 19 = .ok (.ireturn, 1) := by decide +kernel
theorem b_c11_isSet_4_4 : bdec cX11_isSet 4 [.iload_n 1, .iconst 1, .iand, .iconst 1] = true := by decide +kernel
theorem d_c11_isSet_8 : decode cX11_isSet 8 = .ok (.if_icmp .eq 10, 3) := by decide +kernel
theorem b_c11_isSet_11_4 : bdec cX11_isSet 11 [.iload_n 1, .iconst 1, .iload_n 0, .ishl] = true := by decide +kernel
theorem d_c11_isSet_15 : decode cX11_isSet 15 = .ok (.if_icmp .lt 5, 3) := by decide +kernel
theorem b_c11_isSet_20_2 : bdec cX11_isSet 20 [.iconst 1, .istore_n 2] = true := by decide +kernel
theorem b_c11_isSet_22_2 : bdec cX11_isSet 22 [.iload_n 2, .iload_n 0] = true := by decide +kernel
theorem d_c11_isSet_24 : decode cX11_isSet 24 = .ok (.if_icmp .ge 26, 3) := by decide +kernel
theorem b_c11_isSet_27_12 : bdec cX11_isSet 27 [.iload_n 1, .iload_n 2, .ishr, .iconst 1, .iand, .iload_n 1, .iload_n 0, .iload_n 2, .isub, .ishr, .iconst 1, .iand] = true := by decide +kernel
theorem d_c11_isSet_39 : decode cX11_isSet 39 = .ok (.if_icmp .ne 5, 3) := by decide +kernel
theorem b_c11_isSet_44_1 : bdec cX11_isSet 44 [.iinc 2 1] = true := by decide +kernel
theorem d_c11_isSet_47 : decode cX11_isSet 47 = .ok (.goto (-25), 3) := by decide +kernel
theorem b_c11_isSet_42_1 : bdec cX11_isSet 42 [.iconst 0] = true := by decide +kernel
theorem d_c11_isSet_43 : decode cX11_isSet 43 = .ok (.ireturn, 1) := by decide +kernel
theorem b_c11_isSet_50_1 : bdec cX11_isSet 50 [.iconst 1] = true := by decide +kernel
theorem d_c11_isSet_51 : decode cX11_isSet 51 = .ok (.ireturn, 1) := by decide +kernel
def f11_isSet_L22 (p0 : Int32) (p1 : Int32) (w : Int32) : Option ((Int32) ⊕ ((Int32) ⊕ (Unit))) := match w with
  | x22_2 => if p0 ≤ x22_2 then (some (.inr (.inr ()))) else (if ((p1 >>> (x22_2 &&& 31)) &&& (Int32.ofInt 1)) = ((p1 >>> ((p0 - x22_2) &&& 31)) &&& (Int32.ofInt 1)) then (some (.inr (.inl (Int32.ofInt 0)))) else (some (.inl (x22_2 + Int32.ofInt 1))))
def f11_isSet (p0 : Int32) (p1 : Int32) : Option (Int32) := if p1 < 0 then (some (Int32.ofInt 0)) else (if (p1 &&& (Int32.ofInt 1)) = (Int32.ofInt 1) then (some (Int32.ofInt 0)) else (if p1 < ((Int32.ofInt 1) <<< (p0 &&& 31)) then (obd (iter (f11_isSet_L22 p0 p1) FU (Int32.ofInt 1)) (fun o4 => osm o4 (fun o4 => some o4) (fun o4 => some (Int32.ofInt 1)))) else (some (Int32.ofInt 0))))
set_option maxRecDepth 100000 in
set_option maxHeartbeats 4000000 in
theorem c11_isSet (l : Launch) (κ : KP) (A : Nat → Prop) (HP : Heap → Prop) (p0 : Int32) (p1 : Int32) {res : Int32} (hF : f11_isSet p0 p1 = some res) : Met l yX11_isSet (Cond.code yX11_isSet cX11_isSet 3 (some .boolean) :: WT) (rmL 0 0 0) (PP κ A [.int p0, .int p1] HP) (QQ (some (.int res)) HP A) 0 0 A := by
  refine met_of (own := RX11) (by decide) rfl (Nat.le_of_ble_eq_true rfl) ?_
  intro Γ E hQ hL hR hA hent hini
  have hAA : ∀ q, A q → jA Γ q := fun q h => by rw [hA]; exact h
  have hroom : ∀ (d mL : Nat) {mc ms : Nat}, d < 0 → mL ≤ 21 → (rmL d mc ms).frames + 1 ≤ (jR Γ).frames ∧ 8 + (mL + 11) + (rmL d mc ms).locals ≤ (jR Γ).locals := fun d mL mc ms h1 h2 => by rw [hR]; exact rmL_le h1 h2
  show J Γ 3 HP 0 0 0 [(0, .int p0), (1, .int p1)] []
  unfold f11_isSet at hF
  refine j_blk (pc' := 1) (lv' := [(0, .int p0), (1, .int p1)]) (st' := [.int p1]) E b_c11_isSet_0_1 rfl ?_
  refine j_if_lt (tgt := 18) E d_c11_isSet_1 (by decide) (fun h1 => ?_) (fun h1 => ?_)
  · replace hF := g_t hF h1
    refine j_blk (pc' := 19) (lv' := [(0, .int p0), (1, .int p1)]) (st' := [.int (Int32.ofInt 0)]) E b_c11_isSet_18_1 rfl ?_
    have e : res = Int32.ofInt 0 := g_inj hF
    subst e
    exact j_zret E hQ nb_0 d_c11_isSet_19 (fun _ h => h)
  · replace hF := g_f hF h1
    refine j_blk (pc' := 8) (lv' := [(0, .int p0), (1, .int p1)]) (st' := [.int (Int32.ofInt 1), .int (p1 &&& (Int32.ofInt 1))]) E b_c11_isSet_4_4 rfl ?_
    refine j_icmp_eq (tgt := 18) E d_c11_isSet_8 (by decide) (fun h2 => ?_) (fun h2 => ?_)
    · replace hF := g_t hF h2
      refine j_blk (pc' := 19) (lv' := [(0, .int p0), (1, .int p1)]) (st' := [.int (Int32.ofInt 0)]) E b_c11_isSet_18_1 rfl ?_
      have e : res = Int32.ofInt 0 := g_inj hF
      subst e
      exact j_zret E hQ nb_0 d_c11_isSet_19 (fun _ h => h)
    · replace hF := g_f hF h2
      refine j_blk (pc' := 15) (lv' := [(0, .int p0), (1, .int p1)]) (st' := [.int ((Int32.ofInt 1) <<< (p0 &&& 31)), .int p1]) E b_c11_isSet_11_4 rfl ?_
      refine j_icmp_lt (tgt := 20) E d_c11_isSet_15 (by decide) (fun h3 => ?_) (fun h3 => ?_)
      · replace hF := g_t hF h3
        refine j_blk (pc' := 22) (lv' := [(2, .int (Int32.ofInt 1)), (0, .int p0), (1, .int p1)]) (st' := []) E b_c11_isSet_20_2 rfl ?_
        refine j_lv [1, 2, 0] rfl ?_
        replace hF := obd_at hF
        obtain ⟨o4, ho4, hF⟩ := hF
        have lpo4 : ∀ (fu : Nat) (w : Int32) (o : (Int32) ⊕ (Unit)), iter (f11_isSet_L22 p0 p1) fu w = some o → (fun (o : (Int32) ⊕ (Unit)) => match o with | .inl r => r = res | .inr o => J Γ 3 HP 0 0 50 [] []) o → (fun (w : Int32) => J Γ 3 HP 0 0 22 [(0, .int p0), (1, .int p1), (2, .int w)] []) w := by
          refine j_iter (P := fun (w : Int32) => J Γ 3 HP 0 0 22 [(0, .int p0), (1, .int p1), (2, .int w)] []) (G := fun (o : (Int32) ⊕ (Unit)) => match o with | .inl r => r = res | .inr o => J Γ 3 HP 0 0 50 [] []) ?_
          intro x22_2 q hF hI hO
          show J Γ 3 HP 0 0 22 [(0, .int p0), (1, .int p1), (2, .int x22_2)] []
          unfold f11_isSet_L22 at hF
          refine j_blk (pc' := 24) (lv' := [(0, .int p0), (1, .int p1), (2, .int x22_2)]) (st' := [.int p0, .int x22_2]) E b_c11_isSet_22_2 rfl ?_
          refine j_icmp_ge (tgt := 50) E d_c11_isSet_24 (by decide) (fun h5 => ?_) (fun h5 => ?_)
          · replace hF := g_t hF h5
            refine j_lv [] rfl ?_
            exact hO _ (g_inj hF)
          · replace hF := g_f hF h5
            refine j_blk (pc' := 39) (lv' := [(0, .int p0), (1, .int p1), (2, .int x22_2)]) (st' := [.int ((p1 >>> ((p0 - x22_2) &&& 31)) &&& (Int32.ofInt 1)), .int ((p1 >>> (x22_2 &&& 31)) &&& (Int32.ofInt 1))]) E b_c11_isSet_27_12 rfl ?_
            refine j_icmp_ne (tgt := 44) E d_c11_isSet_39 (by decide) (fun h6 => ?_) (fun h6 => ?_)
            · replace hF := g_f hF h6
              refine j_blk (pc' := 47) (lv' := [(2, .int (x22_2 + Int32.ofInt 1)), (0, .int p0), (1, .int p1)]) (st' := []) E b_c11_isSet_44_1 rfl ?_
              refine j_goto (tgt := 22) E d_c11_isSet_47 (by decide) ?_
              refine j_lv [1, 2, 0] rfl ?_
              exact hI _ (g_inj hF)
            · replace hF := g_t hF h6
              refine j_blk (pc' := 43) (lv' := [(0, .int p0), (1, .int p1), (2, .int x22_2)]) (st' := [.int (Int32.ofInt 0)]) E b_c11_isSet_42_1 rfl ?_
              have e : Int32.ofInt 0 = res := hO _ (g_inj hF)
              subst e
              exact j_zret E hQ nb_0 d_c11_isSet_43 (fun _ h => h)
        refine lpo4 FU (Int32.ofInt 1) o4 ho4 ?_
        rcases o4 with o4 | o4
        · exact (g_inj hF).symm
        · skip
          show J Γ 3 HP 0 0 50 [] []
          refine j_blk (pc' := 51) (lv' := []) (st' := [.int (Int32.ofInt 1)]) E b_c11_isSet_50_1 rfl ?_
          have e : res = Int32.ofInt 1 := g_inj hF
          subst e
          exact j_zret E hQ nb_1 d_c11_isSet_51 (fun _ h => h)
      · replace hF := g_f hF h3
        refine j_blk (pc' := 19) (lv' := [(0, .int p0), (1, .int p1)]) (st' := [.int (Int32.ofInt 0)]) E b_c11_isSet_18_1 rfl ?_
        have e : res = Int32.ofInt 0 := g_inj hF
        subst e
        exact j_zret E hQ nb_0 d_c11_isSet_19 (fun _ h => h)
theorem b_c11_areBeaten_0_2 : bdec cX11_areBeaten 0 [.iconst 0, .istore_n 3] = true := by decide +kernel
theorem b_c11_areBeaten_2_2 : bdec cX11_areBeaten 2 [.iload_n 3, .iload_n 0] = true := by decide +kernel
theorem d_c11_areBeaten_4 : decode cX11_areBeaten 4 = .ok (.if_icmp .ge 39, 3) := by decide +kernel
theorem b_c11_areBeaten_7_5 : bdec cX11_areBeaten 7 [.iload_n 1, .iload_n 0, .iload_n 3, .isub, .iload_n 0] = true := by decide +kernel
theorem d_c11_areBeaten_12 : decode cX11_areBeaten 12 = .ok (.irem, 1) := by decide +kernel
theorem b_c11_areBeaten_13_4 : bdec cX11_areBeaten 13 [.ishr, .iconst 1, .iand, .iconst 1] = true := by decide +kernel
theorem d_c11_areBeaten_17 : decode cX11_areBeaten 17 = .ok (.if_icmp .ne 20, 3) := by decide +kernel
theorem b_c11_areBeaten_37_1 : bdec cX11_areBeaten 37 [.iinc 3 1] = true := by decide +kernel
theorem d_c11_areBeaten_40 : decode cX11_areBeaten 40 = .ok (.goto (-38), 3) := by decide +kernel
theorem b_c11_areBeaten_20_7 : bdec cX11_areBeaten 20 [.iload_n 1, .iload_n 0, .iload_n 3, .isub, .iload_n 2, .iadd, .iload_n 0] = true := by decide +kernel
theorem d_c11_areBeaten_27 : decode cX11_areBeaten 27 = .ok (.irem, 1) := by decide +kernel
theorem b_c11_areBeaten_28_4 : bdec cX11_areBeaten 28 [.ishr, .iconst 1, .iand, .iconst 1] = true := by decide +kernel
theorem d_c11_areBeaten_32 : decode cX11_areBeaten 32 = .ok (.if_icmp .ne 5, 3) := by decide +kernel
theorem b_c11_areBeaten_35_1 : bdec cX11_areBeaten 35 [.iconst 1] = true := by decide +kernel
theorem d_c11_areBeaten_36 : decode cX11_areBeaten 36 = .ok (.ireturn, 1) := by decide +kernel
theorem b_c11_areBeaten_43_1 : bdec cX11_areBeaten 43 [.iconst 0] = true := by decide +kernel
theorem d_c11_areBeaten_44 : decode cX11_areBeaten 44 = .ok (.ireturn, 1) := by decide +kernel
def f11_areBeaten_L2 (p0 : Int32) (p1 : Int32) (p2 : Int32) (w : Int32) : Option ((Int32) ⊕ ((Int32) ⊕ (Unit))) := match w with
  | x2_3 => if p0 ≤ x2_3 then (some (.inr (.inr ()))) else (onz p0 (if ((p1 >>> (((p0 - x2_3) - (p0 - x2_3) / p0 * p0) &&& 31)) &&& (Int32.ofInt 1)) = (Int32.ofInt 1) then (onz p0 (if ((p1 >>> ((((p0 - x2_3) + p2) - ((p0 - x2_3) + p2) / p0 * p0) &&& 31)) &&& (Int32.ofInt 1)) = (Int32.ofInt 1) then (some (.inr (.inl (Int32.ofInt 1)))) else (some (.inl (x2_3 + Int32.ofInt 1))))) else (some (.inl (x2_3 + Int32.ofInt 1)))))
def f11_areBeaten (p0 : Int32) (p1 : Int32) (p2 : Int32) : Option (Int32) := obd (iter (f11_areBeaten_L2 p0 p1 p2) FU (Int32.ofInt 0)) (fun o1 => osm o1 (fun o1 => some o1) (fun o1 => some (Int32.ofInt 0)))
set_option maxRecDepth 100000 in
set_option maxHeartbeats 4000000 in
theorem c11_areBeaten (l : Launch) (κ : KP) (A : Nat → Prop) (HP : Heap → Prop) (p0 : Int32) (p1 : Int32) (p2 : Int32) {res : Int32} (hF : f11_areBeaten p0 p1 p2 = some res) : Met l yX11_areBeaten (Cond.code yX11_areBeaten cX11_areBeaten 4 (some .boolean) :: WT) (rmL 0 0 0) (PP κ A [.int p0, .int p1, .int p2] HP) (QQ (some (.int res)) HP A) 0 0 A := by
  refine met_of (own := RX11) (by decide) rfl (Nat.le_of_ble_eq_true rfl) ?_
  intro Γ E hQ hL hR hA hent hini
  have hAA : ∀ q, A q → jA Γ q := fun q h => by rw [hA]; exact h
  have hroom : ∀ (d mL : Nat) {mc ms : Nat}, d < 0 → mL ≤ 21 → (rmL d mc ms).frames + 1 ≤ (jR Γ).frames ∧ 8 + (mL + 11) + (rmL d mc ms).locals ≤ (jR Γ).locals := fun d mL mc ms h1 h2 => by rw [hR]; exact rmL_le h1 h2
  show J Γ 4 HP 0 0 0 [(0, .int p0), (1, .int p1), (2, .int p2)] []
  unfold f11_areBeaten at hF
  refine j_blk (pc' := 2) (lv' := [(3, .int (Int32.ofInt 0)), (0, .int p0), (1, .int p1), (2, .int p2)]) (st' := []) E b_c11_areBeaten_0_2 rfl ?_
  refine j_lv [1, 2, 3, 0] rfl ?_
  replace hF := obd_at hF
  obtain ⟨o1, ho1, hF⟩ := hF
  have lpo1 : ∀ (fu : Nat) (w : Int32) (o : (Int32) ⊕ (Unit)), iter (f11_areBeaten_L2 p0 p1 p2) fu w = some o → (fun (o : (Int32) ⊕ (Unit)) => match o with | .inl r => r = res | .inr o => J Γ 4 HP 0 0 43 [] []) o → (fun (w : Int32) => J Γ 4 HP 0 0 2 [(0, .int p0), (1, .int p1), (2, .int p2), (3, .int w)] []) w := by
    refine j_iter (P := fun (w : Int32) => J Γ 4 HP 0 0 2 [(0, .int p0), (1, .int p1), (2, .int p2), (3, .int w)] []) (G := fun (o : (Int32) ⊕ (Unit)) => match o with | .inl r => r = res | .inr o => J Γ 4 HP 0 0 43 [] []) ?_
    intro x2_3 q hF hI hO
    show J Γ 4 HP 0 0 2 [(0, .int p0), (1, .int p1), (2, .int p2), (3, .int x2_3)] []
    unfold f11_areBeaten_L2 at hF
    refine j_blk (pc' := 4) (lv' := [(0, .int p0), (1, .int p1), (2, .int p2), (3, .int x2_3)]) (st' := [.int p0, .int x2_3]) E b_c11_areBeaten_2_2 rfl ?_
    refine j_icmp_ge (tgt := 43) E d_c11_areBeaten_4 (by decide) (fun h2 => ?_) (fun h2 => ?_)
    · replace hF := g_t hF h2
      refine j_lv [] rfl ?_
      exact hO _ (g_inj hF)
    · replace hF := g_f hF h2
      refine j_blk (pc' := 12) (lv' := [(0, .int p0), (1, .int p1), (2, .int p2), (3, .int x2_3)]) (st' := [.int p0, .int (p0 - x2_3), .int p1]) E b_c11_areBeaten_7_5 rfl ?_
      replace hF := onz_at hF
      obtain ⟨h0, hF⟩ := hF
      refine j_irem E d_c11_areBeaten_12 h0 ?_
      refine j_blk (pc' := 17) (lv' := [(0, .int p0), (1, .int p1), (2, .int p2), (3, .int x2_3)]) (st' := [.int (Int32.ofInt 1), .int ((p1 >>> (((p0 - x2_3) - (p0 - x2_3) / p0 * p0) &&& 31)) &&& (Int32.ofInt 1))]) E b_c11_areBeaten_13_4 rfl ?_
      refine j_icmp_ne (tgt := 37) E d_c11_areBeaten_17 (by decide) (fun h3 => ?_) (fun h3 => ?_)
      · replace hF := g_f hF h3
        refine j_blk (pc' := 40) (lv' := [(3, .int (x2_3 + Int32.ofInt 1)), (0, .int p0), (1, .int p1), (2, .int p2)]) (st' := []) E b_c11_areBeaten_37_1 rfl ?_
        refine j_goto (tgt := 2) E d_c11_areBeaten_40 (by decide) ?_
        refine j_lv [1, 2, 3, 0] rfl ?_
        exact hI _ (g_inj hF)
      · replace hF := g_t hF h3
        refine j_blk (pc' := 27) (lv' := [(0, .int p0), (1, .int p1), (2, .int p2), (3, .int x2_3)]) (st' := [.int p0, .int ((p0 - x2_3) + p2), .int p1]) E b_c11_areBeaten_20_7 rfl ?_
        replace hF := onz_at hF
        obtain ⟨h0, hF⟩ := hF
        refine j_irem E d_c11_areBeaten_27 h0 ?_
        refine j_blk (pc' := 32) (lv' := [(0, .int p0), (1, .int p1), (2, .int p2), (3, .int x2_3)]) (st' := [.int (Int32.ofInt 1), .int ((p1 >>> ((((p0 - x2_3) + p2) - ((p0 - x2_3) + p2) / p0 * p0) &&& 31)) &&& (Int32.ofInt 1))]) E b_c11_areBeaten_28_4 rfl ?_
        refine j_icmp_ne (tgt := 37) E d_c11_areBeaten_32 (by decide) (fun h4 => ?_) (fun h4 => ?_)
        · replace hF := g_f hF h4
          refine j_blk (pc' := 40) (lv' := [(3, .int (x2_3 + Int32.ofInt 1)), (0, .int p0), (1, .int p1), (2, .int p2)]) (st' := []) E b_c11_areBeaten_37_1 rfl ?_
          refine j_goto (tgt := 2) E d_c11_areBeaten_40 (by decide) ?_
          refine j_lv [1, 2, 3, 0] rfl ?_
          exact hI _ (g_inj hF)
        · replace hF := g_t hF h4
          refine j_blk (pc' := 36) (lv' := [(0, .int p0), (1, .int p1), (2, .int p2), (3, .int x2_3)]) (st' := [.int (Int32.ofInt 1)]) E b_c11_areBeaten_35_1 rfl ?_
          have e : Int32.ofInt 1 = res := hO _ (g_inj hF)
          subst e
          exact j_zret E hQ nb_1 d_c11_areBeaten_36 (fun _ h => h)
  refine lpo1 FU (Int32.ofInt 0) o1 ho1 ?_
  rcases o1 with o1 | o1
  · exact (g_inj hF).symm
  · skip
    show J Γ 4 HP 0 0 43 [] []
    refine j_blk (pc' := 44) (lv' := []) (st' := [.int (Int32.ofInt 0)]) E b_c11_areBeaten_43_1 rfl ?_
    have e : res = Int32.ofInt 0 := g_inj hF
    subst e
    exact j_zret E hQ nb_0 d_c11_areBeaten_44 (fun _ h => h)
theorem b_c11_told_0_1 : bdec cX11_told 0 [.aload_n 0] = true := by decide +kernel
theorem d_c11_told_1 : decode cX11_told 1 = .ok (.getfield 31, 3) := by decide +kernel
theorem b_c11_told_4_5 : bdec cX11_told 4 [.bipush 100, .iload_n 1, .imul, .iload_n 2, .iadd] = true := by decide +kernel
theorem d_c11_told_10 : decode cX11_told 10 = .ok (.iaload, 1) := by decide +kernel
theorem d_c11_told_11 : decode cX11_told 11 = .ok (.ireturn, 1) := by decide +kernel
def f11_told (s0 : HM) (a0 : Nat) (p1 : Int32) (p2 : Int32) : Option (Int32) := obd (hfld s0 [11] 7 a0) (fun v1 => orf v1 (fun b2 => obd (hald s0 b2 ((((Int8.ofInt 100).toInt32) * p1) + p2)) (fun v3 => some v3)))
set_option maxRecDepth 100000 in
set_option maxHeartbeats 4000000 in
theorem c11_told (l : Launch) (κ : KP) (A : Nat → Prop) (s0 : HM) (a0 : Nat) (p1 : Int32) (p2 : Int32) {res : Int32} (hF : f11_told s0 a0 p1 p2 = some res) : Met l yX11_told (Cond.code yX11_told cX11_told 3 (some .int) :: WT) (rmL 0 0 0) (PP κ A [.ref a0, .int p1, .int p2] (HS κ A s0)) (QQ (some (.int res)) (HS κ A s0) A) 0 0 A := by
  refine met_of (own := RX11) (by decide) rfl (Nat.le_of_ble_eq_true rfl) ?_
  intro Γ E hQ hL hR hA hent hini
  have hAA : ∀ q, A q → jA Γ q := fun q h => by rw [hA]; exact h
  have hroom : ∀ (d mL : Nat) {mc ms : Nat}, d < 0 → mL ≤ 21 → (rmL d mc ms).frames + 1 ≤ (jR Γ).frames ∧ 8 + (mL + 11) + (rmL d mc ms).locals ≤ (jR Γ).locals := fun d mL mc ms h1 h2 => by rw [hR]; exact rmL_le h1 h2
  show J Γ 3 (HS κ A s0) 0 0 0 [(0, .ref a0), (1, .int p1), (2, .int p2)] []
  unfold f11_told at hF
  refine j_blk (pc' := 1) (lv' := [(0, .ref a0), (1, .int p1), (2, .int p2)]) (st' := [.ref a0]) E b_c11_told_0_1 rfl ?_
  replace hF := obd_at hF
  obtain ⟨v1, ev1, hF⟩ := hF
  refine j_getf E fg_RX11_31 d_c11_told_1 ev1 ?_
  refine j_blk (pc' := 10) (lv' := [(0, .ref a0), (1, .int p1), (2, .int p2)]) (st' := [.int ((((Int8.ofInt 100).toInt32) * p1) + p2), v1]) E b_c11_told_4_5 rfl ?_
  replace hF := orf_at hF
  obtain ⟨b2, rfl, hF⟩ := hF
  replace hF := obd_at hF
  obtain ⟨v3, ev3, hF⟩ := hF
  refine j_iald E d_c11_told_10 ev3 ?_
  have e : res = v3 := g_inj hF
  subst e
  exact j_iret E hQ d_c11_told_11 (fun _ h => h)
theorem b_c11_drawn_0_2 : bdec cX11_drawn 0 [.aload_n 0, .aload_n 0] = true := by decide +kernel
theorem d_c11_drawn_2 : decode cX11_drawn 2 = .ok (.getfield 226, 3) := by decide +kernel
theorem d_c11_drawn_5 : decode cX11_drawn 5 = .ok (.ldc 229, 2) := by decide +kernel
theorem b_c11_drawn_7_3 : bdec cX11_drawn 7 [.imul, .sipush 12345, .iadd] = true := by decide +kernel
theorem d_c11_drawn_12 : decode cX11_drawn 12 = .ok (.putfield 226, 3) := by decide +kernel
theorem b_c11_drawn_15_1 : bdec cX11_drawn 15 [.aload_n 0] = true := by decide +kernel
theorem d_c11_drawn_16 : decode cX11_drawn 16 = .ok (.getfield 226, 3) := by decide +kernel
theorem d_c11_drawn_19 : decode cX11_drawn 19 = .ok (.ldc 230, 2) := by decide +kernel
theorem b_c11_drawn_21_1 : bdec cX11_drawn 21 [.iand] = true := by decide +kernel
theorem d_c11_drawn_22 : decode cX11_drawn 22 = .ok (.ldc 231, 2) := by decide +kernel
theorem d_c11_drawn_24 : decode cX11_drawn 24 = .ok (.idiv, 1) := by decide +kernel
theorem b_c11_drawn_25_1 : bdec cX11_drawn 25 [.iload_n 1] = true := by decide +kernel
theorem d_c11_drawn_26 : decode cX11_drawn 26 = .ok (.irem, 1) := by decide +kernel
theorem d_c11_drawn_27 : decode cX11_drawn 27 = .ok (.ireturn, 1) := by decide +kernel
def f11_drawn (s0 : HM) (a0 : Nat) (p1 : Int32) : Option (Int32 × HM) := obd (hfi s0 [11] 18 a0) (fun v1 => obd (hput s0 [11] 18 a0 (.int ((v1 * 1103515245) + ((Int16.ofInt 12345).toInt32)))) (fun s2 => obd (hfi s2 [11] 18 a0) (fun v3 => onz 65536 (onz p1 (some (((v3 &&& 2147483647) / 65536) - ((v3 &&& 2147483647) / 65536) / p1 * p1, s2))))))
set_option maxRecDepth 100000 in
set_option maxHeartbeats 4000000 in
theorem c11_drawn (l : Launch) (κ : KP) (A : Nat → Prop) (s0 : HM) (a0 : Nat) (p1 : Int32) {res : Int32 × HM} (hF : f11_drawn s0 a0 p1 = some res) : Met l yX11_drawn (Cond.code yX11_drawn cX11_drawn 2 (some .int) :: WT) (rmL 0 0 0) (PP κ A [.ref a0, .int p1] (HS κ A s0)) (QQ (some (.int res.1)) (HS κ A res.2) A) 0 0 A := by
  refine met_of (own := RX11) (by decide) rfl (Nat.le_of_ble_eq_true rfl) ?_
  intro Γ E hQ hL hR hA hent hini
  have hAA : ∀ q, A q → jA Γ q := fun q h => by rw [hA]; exact h
  have hroom : ∀ (d mL : Nat) {mc ms : Nat}, d < 0 → mL ≤ 21 → (rmL d mc ms).frames + 1 ≤ (jR Γ).frames ∧ 8 + (mL + 11) + (rmL d mc ms).locals ≤ (jR Γ).locals := fun d mL mc ms h1 h2 => by rw [hR]; exact rmL_le h1 h2
  show J Γ 2 (HS κ A s0) 0 0 0 [(0, .ref a0), (1, .int p1)] []
  unfold f11_drawn at hF
  refine j_blk (pc' := 2) (lv' := [(0, .ref a0), (1, .int p1)]) (st' := [.ref a0, .ref a0]) E b_c11_drawn_0_2 rfl ?_
  replace hF := obd_at hF
  obtain ⟨v1, ev1, hF⟩ := hF
  refine j_getI E fg_RX11_226 d_c11_drawn_2 ev1 ?_
  refine j_ldc (x := 1103515245) E d_c11_drawn_5 m_1128 ?_
  refine j_blk (pc' := 12) (lv' := [(0, .ref a0), (1, .int p1)]) (st' := [.int ((v1 * 1103515245) + ((Int16.ofInt 12345).toInt32)), .ref a0]) E b_c11_drawn_7_3 rfl ?_
  replace hF := obd_at hF
  obtain ⟨s2, es2, hF⟩ := hF
  refine j_put E fp_RX11_226 d_c11_drawn_12 rfl rfl es2 hAA ?_
  refine j_blk (pc' := 16) (lv' := [(0, .ref a0), (1, .int p1)]) (st' := [.ref a0]) E b_c11_drawn_15_1 rfl ?_
  replace hF := obd_at hF
  obtain ⟨v3, ev3, hF⟩ := hF
  refine j_getI E fg_RX11_226 d_c11_drawn_16 ev3 ?_
  refine j_ldc (x := 2147483647) E d_c11_drawn_19 m_1129 ?_
  refine j_blk (pc' := 22) (lv' := [(0, .ref a0), (1, .int p1)]) (st' := [.int (v3 &&& 2147483647)]) E b_c11_drawn_21_1 rfl ?_
  refine j_ldc (x := 65536) E d_c11_drawn_22 m_1130 ?_
  replace hF := onz_at hF
  obtain ⟨h0, hF⟩ := hF
  refine j_idiv E d_c11_drawn_24 h0 ?_
  refine j_blk (pc' := 26) (lv' := [(0, .ref a0), (1, .int p1)]) (st' := [.int p1, .int ((v3 &&& 2147483647) / 65536)]) E b_c11_drawn_25_1 rfl ?_
  replace hF := onz_at hF
  obtain ⟨h0, hF⟩ := hF
  refine j_irem E d_c11_drawn_26 h0 ?_
  have e : res = (((v3 &&& 2147483647) / 65536) - ((v3 &&& 2147483647) / 65536) / p1 * p1, s2) := g_inj hF
  subst e
  exact j_iret E hQ d_c11_drawn_27 (fun _ h => h)
theorem b_c11_init_0_1 : bdec cX11_init 0 [.aload_n 0] = true := by decide +kernel
theorem d_c11_init_1 : decode cX11_init 1 = .ok (.invokespecial 1, 3) := by decide +kernel
theorem b_c11_init_4_2 : bdec cX11_init 4 [.aload_n 0, .bipush 26] = true := by decide +kernel
theorem d_c11_init_7 : decode cX11_init 7 = .ok (.newarray .int, 2) := by decide +kernel
theorem d_c11_init_9 : decode cX11_init 9 = .ok (.putfield 9, 3) := by decide +kernel
theorem b_c11_init_12_2 : bdec cX11_init 12 [.aload_n 0, .bipush 26] = true := by decide +kernel
theorem d_c11_init_15 : decode cX11_init 15 = .ok (.newarray .int, 2) := by decide +kernel
theorem d_c11_init_17 : decode cX11_init 17 = .ok (.putfield 13, 3) := by decide +kernel
theorem b_c11_init_20_2 : bdec cX11_init 20 [.aload_n 0, .bipush 26] = true := by decide +kernel
theorem d_c11_init_23 : decode cX11_init 23 = .ok (.newarray .int, 2) := by decide +kernel
theorem d_c11_init_25 : decode cX11_init 25 = .ok (.putfield 16, 3) := by decide +kernel
theorem b_c11_init_28_2 : bdec cX11_init 28 [.aload_n 0, .bipush 26] = true := by decide +kernel
theorem d_c11_init_31 : decode cX11_init 31 = .ok (.newarray .int, 2) := by decide +kernel
theorem d_c11_init_33 : decode cX11_init 33 = .ok (.putfield 19, 3) := by decide +kernel
theorem b_c11_init_36_2 : bdec cX11_init 36 [.aload_n 0, .bipush 8] = true := by decide +kernel
theorem d_c11_init_39 : decode cX11_init 39 = .ok (.newarray .int, 2) := by decide +kernel
theorem d_c11_init_41 : decode cX11_init 41 = .ok (.putfield 22, 3) := by decide +kernel
theorem b_c11_init_44_2 : bdec cX11_init 44 [.aload_n 0, .bipush 8] = true := by decide +kernel
theorem d_c11_init_47 : decode cX11_init 47 = .ok (.newarray .int, 2) := by decide +kernel
theorem d_c11_init_49 : decode cX11_init 49 = .ok (.putfield 25, 3) := by decide +kernel
theorem b_c11_init_52_2 : bdec cX11_init 52 [.aload_n 0, .bipush 8] = true := by decide +kernel
theorem d_c11_init_55 : decode cX11_init 55 = .ok (.newarray .int, 2) := by decide +kernel
theorem d_c11_init_57 : decode cX11_init 57 = .ok (.putfield 28, 3) := by decide +kernel
theorem b_c11_init_60_2 : bdec cX11_init 60 [.aload_n 0, .sipush 800] = true := by decide +kernel
theorem d_c11_init_64 : decode cX11_init 64 = .ok (.newarray .int, 2) := by decide +kernel
theorem d_c11_init_66 : decode cX11_init 66 = .ok (.putfield 31, 3) := by decide +kernel
theorem b_c11_init_69_2 : bdec cX11_init 69 [.aload_n 0, .bipush 8] = true := by decide +kernel
theorem d_c11_init_72 : decode cX11_init 72 = .ok (.newarray .int, 2) := by decide +kernel
theorem d_c11_init_74 : decode cX11_init 74 = .ok (.putfield 34, 3) := by decide +kernel
theorem b_c11_init_77_2 : bdec cX11_init 77 [.aload_n 0, .bipush 8] = true := by decide +kernel
theorem d_c11_init_80 : decode cX11_init 80 = .ok (.newarray .int, 2) := by decide +kernel
theorem d_c11_init_82 : decode cX11_init 82 = .ok (.putfield 37, 3) := by decide +kernel
theorem b_c11_init_85_2 : bdec cX11_init 85 [.aload_n 0, .iconst 2] = true := by decide +kernel
theorem d_c11_init_87 : decode cX11_init 87 = .ok (.newarray .int, 2) := by decide +kernel
theorem d_c11_init_89 : decode cX11_init 89 = .ok (.putfield 40, 3) := by decide +kernel
theorem b_c11_init_92_1 : bdec cX11_init 92 [.aload_n 0] = true := by decide +kernel
theorem d_c11_init_93 : decode cX11_init 93 = .ok (.getfield 9, 3) := by decide +kernel
theorem b_c11_init_96_2 : bdec cX11_init 96 [.iconst 1, .iconst 2] = true := by decide +kernel
theorem d_c11_init_98 : decode cX11_init 98 = .ok (.iastore, 1) := by decide +kernel
theorem d_c11_init_99 : decode cX11_init 99 = .ok (.return_, 1) := by decide +kernel
def f11_init (s0 : HM) (a0 : Nat) : Option (HM) := obd (hput (hnew s0 (.inr (.inl (26, fun _ => 0)))) [11] 0 a0 (.ref s0.2)) (fun s1 => obd (hput (hnew s1 (.inr (.inl (26, fun _ => 0)))) [11] 1 a0 (.ref s1.2)) (fun s2 => obd (hput (hnew s2 (.inr (.inl (26, fun _ => 0)))) [11] 2 a0 (.ref s2.2)) (fun s3 => obd (hput (hnew s3 (.inr (.inl (26, fun _ => 0)))) [11] 3 a0 (.ref s3.2)) (fun s4 => obd (hput (hnew s4 (.inr (.inl (8, fun _ => 0)))) [11] 4 a0 (.ref s4.2)) (fun s5 => obd (hput (hnew s5 (.inr (.inl (8, fun _ => 0)))) [11] 5 a0 (.ref s5.2)) (fun s6 => obd (hput (hnew s6 (.inr (.inl (8, fun _ => 0)))) [11] 6 a0 (.ref s6.2)) (fun s7 => obd (hput (hnew s7 (.inr (.inl (800, fun _ => 0)))) [11] 7 a0 (.ref s7.2)) (fun s8 => obd (hput (hnew s8 (.inr (.inl (8, fun _ => 0)))) [11] 8 a0 (.ref s8.2)) (fun s9 => obd (hput (hnew s9 (.inr (.inl (8, fun _ => 0)))) [11] 9 a0 (.ref s9.2)) (fun s10 => obd (hput (hnew s10 (.inr (.inl (2, fun _ => 0)))) [11] 15 a0 (.ref s10.2)) (fun s11 => obd (hfld s11 [11] 0 a0) (fun v12 => orf v12 (fun b13 => obd (hast s11 b13 (Int32.ofInt 1) (Int32.ofInt 2)) (fun s14 => some s14))))))))))))))
set_option maxRecDepth 100000 in
set_option maxHeartbeats 4000000 in
theorem c11_init (l : Launch) (κ : KP) (A : Nat → Prop) (hκ : kF κ = true) (s0 : HM) (a0 : Nat) {res : HM} (hF : f11_init s0 a0 = some res) : Met l yX11_init (Cond.code yX11_init cX11_init 1 none :: WT) (rmL 1 11 946) (PP κ A [.ref a0] (HS κ A s0)) (QQ none (HS κ A res) A) 11 946 A := by
  refine met_of (own := RX11) (by decide) rfl (Nat.le_of_ble_eq_true rfl) ?_
  intro Γ E hQ hL hR hA hent hini
  have hAA : ∀ q, A q → jA Γ q := fun q h => by rw [hA]; exact h
  have hroom : ∀ (d mL : Nat) {mc ms : Nat}, d < 1 → mL ≤ 21 → (rmL d mc ms).frames + 1 ≤ (jR Γ).frames ∧ 8 + (mL + 11) + (rmL d mc ms).locals ≤ (jR Γ).locals := fun d mL mc ms h1 h2 => by rw [hR]; exact rmL_le h1 h2
  show J Γ 1 (HS κ A s0) 0 0 0 [(0, .ref a0)] []
  unfold f11_init at hF
  refine j_blk (pc' := 1) (lv' := [(0, .ref a0)]) (st' := [.ref a0]) E b_c11_init_0_1 rfl ?_
  refine j_obj E ⟨m_802, m_71, m_72⟩ d_c11_init_1 (by rw [hR]; decide) (by rw [hR]; decide) ?_
  refine j_blk (pc' := 7) (lv' := [(0, .ref a0)]) (st' := [.int ((Int8.ofInt 26).toInt32), .ref a0]) E b_c11_init_4_2 rfl ?_
  refine j_newa (N := 26) E m_115 (by decide) (by decide) (by decide) d_c11_init_7 (by rw [hR]; decide) (by rw [hR]; decide) hκ ?_
  replace hF := obd_at hF
  obtain ⟨s1, es1, hF⟩ := hF
  refine j_putF E fp_RX11_9 (hini rfl) d_c11_init_9 rfl rfl es1 hAA ?_
  refine j_blk (pc' := 15) (lv' := [(0, .ref a0)]) (st' := [.int ((Int8.ofInt 26).toInt32), .ref a0]) E b_c11_init_12_2 rfl ?_
  refine j_newa (N := 26) E m_115 (by decide) (by decide) (by decide) d_c11_init_15 (by rw [hR]; decide) (by rw [hR]; decide) hκ ?_
  replace hF := obd_at hF
  obtain ⟨s2, es2, hF⟩ := hF
  refine j_putF E fp_RX11_13 (hini rfl) d_c11_init_17 rfl rfl es2 hAA ?_
  refine j_blk (pc' := 23) (lv' := [(0, .ref a0)]) (st' := [.int ((Int8.ofInt 26).toInt32), .ref a0]) E b_c11_init_20_2 rfl ?_
  refine j_newa (N := 26) E m_115 (by decide) (by decide) (by decide) d_c11_init_23 (by rw [hR]; decide) (by rw [hR]; decide) hκ ?_
  replace hF := obd_at hF
  obtain ⟨s3, es3, hF⟩ := hF
  refine j_putF E fp_RX11_16 (hini rfl) d_c11_init_25 rfl rfl es3 hAA ?_
  refine j_blk (pc' := 31) (lv' := [(0, .ref a0)]) (st' := [.int ((Int8.ofInt 26).toInt32), .ref a0]) E b_c11_init_28_2 rfl ?_
  refine j_newa (N := 26) E m_115 (by decide) (by decide) (by decide) d_c11_init_31 (by rw [hR]; decide) (by rw [hR]; decide) hκ ?_
  replace hF := obd_at hF
  obtain ⟨s4, es4, hF⟩ := hF
  refine j_putF E fp_RX11_19 (hini rfl) d_c11_init_33 rfl rfl es4 hAA ?_
  refine j_blk (pc' := 39) (lv' := [(0, .ref a0)]) (st' := [.int ((Int8.ofInt 8).toInt32), .ref a0]) E b_c11_init_36_2 rfl ?_
  refine j_newa (N := 8) E m_115 (by decide) (by decide) (by decide) d_c11_init_39 (by rw [hR]; decide) (by rw [hR]; decide) hκ ?_
  replace hF := obd_at hF
  obtain ⟨s5, es5, hF⟩ := hF
  refine j_putF E fp_RX11_22 (hini rfl) d_c11_init_41 rfl rfl es5 hAA ?_
  refine j_blk (pc' := 47) (lv' := [(0, .ref a0)]) (st' := [.int ((Int8.ofInt 8).toInt32), .ref a0]) E b_c11_init_44_2 rfl ?_
  refine j_newa (N := 8) E m_115 (by decide) (by decide) (by decide) d_c11_init_47 (by rw [hR]; decide) (by rw [hR]; decide) hκ ?_
  replace hF := obd_at hF
  obtain ⟨s6, es6, hF⟩ := hF
  refine j_putF E fp_RX11_25 (hini rfl) d_c11_init_49 rfl rfl es6 hAA ?_
  refine j_blk (pc' := 55) (lv' := [(0, .ref a0)]) (st' := [.int ((Int8.ofInt 8).toInt32), .ref a0]) E b_c11_init_52_2 rfl ?_
  refine j_newa (N := 8) E m_115 (by decide) (by decide) (by decide) d_c11_init_55 (by rw [hR]; decide) (by rw [hR]; decide) hκ ?_
  replace hF := obd_at hF
  obtain ⟨s7, es7, hF⟩ := hF
  refine j_putF E fp_RX11_28 (hini rfl) d_c11_init_57 rfl rfl es7 hAA ?_
  refine j_blk (pc' := 64) (lv' := [(0, .ref a0)]) (st' := [.int ((Int16.ofInt 800).toInt32), .ref a0]) E b_c11_init_60_2 rfl ?_
  refine j_newa (N := 800) E m_115 (by decide) (by decide) (by decide) d_c11_init_64 (by rw [hR]; decide) (by rw [hR]; decide) hκ ?_
  replace hF := obd_at hF
  obtain ⟨s8, es8, hF⟩ := hF
  refine j_putF E fp_RX11_31 (hini rfl) d_c11_init_66 rfl rfl es8 hAA ?_
  refine j_blk (pc' := 72) (lv' := [(0, .ref a0)]) (st' := [.int ((Int8.ofInt 8).toInt32), .ref a0]) E b_c11_init_69_2 rfl ?_
  refine j_newa (N := 8) E m_115 (by decide) (by decide) (by decide) d_c11_init_72 (by rw [hR]; decide) (by rw [hR]; decide) hκ ?_
  replace hF := obd_at hF
  obtain ⟨s9, es9, hF⟩ := hF
  refine j_putF E fp_RX11_34 (hini rfl) d_c11_init_74 rfl rfl es9 hAA ?_
  refine j_blk (pc' := 80) (lv' := [(0, .ref a0)]) (st' := [.int ((Int8.ofInt 8).toInt32), .ref a0]) E b_c11_init_77_2 rfl ?_
  refine j_newa (N := 8) E m_115 (by decide) (by decide) (by decide) d_c11_init_80 (by rw [hR]; decide) (by rw [hR]; decide) hκ ?_
  replace hF := obd_at hF
  obtain ⟨s10, es10, hF⟩ := hF
  refine j_putF E fp_RX11_37 (hini rfl) d_c11_init_82 rfl rfl es10 hAA ?_
  refine j_blk (pc' := 87) (lv' := [(0, .ref a0)]) (st' := [.int (Int32.ofInt 2), .ref a0]) E b_c11_init_85_2 rfl ?_
  refine j_newa (N := 2) E m_115 (by decide) (by decide) (by decide) d_c11_init_87 (by rw [hR]; decide) (by rw [hR]; decide) hκ ?_
  replace hF := obd_at hF
  obtain ⟨s11, es11, hF⟩ := hF
  refine j_putF E fp_RX11_40 (hini rfl) d_c11_init_89 rfl rfl es11 hAA ?_
  refine j_blk (pc' := 93) (lv' := [(0, .ref a0)]) (st' := [.ref a0]) E b_c11_init_92_1 rfl ?_
  replace hF := obd_at hF
  obtain ⟨v12, ev12, hF⟩ := hF
  refine j_getf E fg_RX11_9 d_c11_init_93 ev12 ?_
  refine j_blk (pc' := 98) (lv' := [(0, .ref a0)]) (st' := [.int (Int32.ofInt 2), .int (Int32.ofInt 1), v12]) E b_c11_init_96_2 rfl ?_
  replace hF := orf_at hF
  obtain ⟨b13, rfl, hF⟩ := hF
  replace hF := obd_at hF
  obtain ⟨s14, es14, hF⟩ := hF
  refine j_iast E d_c11_init_98 es14 hAA ?_
  have e : res = s14 := g_inj hF
  subst e
  refine j_wid (k' := 11) (n' := 946) (by decide) (by decide) ?_
  exact j_vret E hQ d_c11_init_99 (fun _ h => h)
theorem b_c11_isShelf_0_3 : bdec cX11_isShelf 0 [.iload_n 0, .i2l, .lconst 0] = true := by decide +kernel
theorem d_c11_isShelf_3 : decode cX11_isShelf 3 = .ok (.ldc2_w 47, 3) := by decide +kernel
theorem d_c11_isShelf_6 : decode cX11_isShelf 6 = .ok (.invokestatic 49, 3) := by decide +kernel
theorem d_c11_isShelf_9 : decode cX11_isShelf 9 = .ok (.ireturn, 1) := by decide +kernel
def f11_isShelf (p0 : Int32) : Option (Int32) := obd (f11_isIn p0.toInt64 (Int64.ofNat 0) 7) (fun v2 => ogd (isB v2) (some v2))
set_option maxRecDepth 100000 in
set_option maxHeartbeats 4000000 in
theorem c11_isShelf (l : Launch) (κ : KP) (A : Nat → Prop) (HP : Heap → Prop) (p0 : Int32) {res : Int32} (hF : f11_isShelf p0 = some res) : Met l yX11_isShelf (Cond.code yX11_isShelf cX11_isShelf 1 (some .boolean) :: WT) (rmL 1 0 0) (PP κ A [.int p0] HP) (QQ (some (.int res)) HP A) 0 0 A := by
  refine met_of (own := RX11) (by decide) rfl (Nat.le_of_ble_eq_true rfl) ?_
  intro Γ E hQ hL hR hA hent hini
  have hAA : ∀ q, A q → jA Γ q := fun q h => by rw [hA]; exact h
  have hroom : ∀ (d mL : Nat) {mc ms : Nat}, d < 1 → mL ≤ 21 → (rmL d mc ms).frames + 1 ≤ (jR Γ).frames ∧ 8 + (mL + 11) + (rmL d mc ms).locals ≤ (jR Γ).locals := fun d mL mc ms h1 h2 => by rw [hR]; exact rmL_le h1 h2
  show J Γ 1 HP 0 0 0 [(0, .int p0)] []
  unfold f11_isShelf at hF
  refine j_blk (pc' := 3) (lv' := [(0, .int p0)]) (st' := [.long (Int64.ofNat 0), .long p0.toInt64]) E b_c11_isShelf_0_3 rfl ?_
  refine j_ldc2 (u := 7) E d_c11_isShelf_3 m_876 ?_
  replace hF := obd_at hF
  obtain ⟨v2, he1, hF⟩ := hF
  refine j_calls [.long p0.toInt64, .long (Int64.ofNat 0), .long 7] [] E w_RX11_49 (hroom 0 6 (by decide) (by decide)) hAA (c11_isIn _ κ A HP _ _ _  he1) (fun _ h => h) (fun _ _ _ h _ _ => h) rfl rfl (Nat.le_of_ble_eq_true rfl) d_c11_isShelf_6 ⟨Nat.zero_le _, Nat.zero_le _⟩ ?_
  replace hF := ogd_at hF
  obtain ⟨hb, hF⟩ := hF
  have e : res = v2 := g_inj hF
  subst e
  exact j_zret E hQ (isB_n hb) d_c11_isShelf_9 (fun _ h => h)
theorem b_c11_isLaw_0_3 : bdec cX11_isLaw 0 [.iload_n 0, .i2l, .lconst 1] = true := by decide +kernel
theorem d_c11_isLaw_3 : decode cX11_isLaw 3 = .ok (.ldc2_w 53, 3) := by decide +kernel
theorem d_c11_isLaw_6 : decode cX11_isLaw 6 = .ok (.invokestatic 49, 3) := by decide +kernel
theorem d_c11_isLaw_9 : decode cX11_isLaw 9 = .ok (.ireturn, 1) := by decide +kernel
def f11_isLaw (p0 : Int32) : Option (Int32) := obd (f11_isIn p0.toInt64 (Int64.ofNat 1) 2) (fun v2 => ogd (isB v2) (some v2))
set_option maxRecDepth 100000 in
set_option maxHeartbeats 4000000 in
theorem c11_isLaw (l : Launch) (κ : KP) (A : Nat → Prop) (HP : Heap → Prop) (p0 : Int32) {res : Int32} (hF : f11_isLaw p0 = some res) : Met l yX11_isLaw (Cond.code yX11_isLaw cX11_isLaw 1 (some .boolean) :: WT) (rmL 1 0 0) (PP κ A [.int p0] HP) (QQ (some (.int res)) HP A) 0 0 A := by
  refine met_of (own := RX11) (by decide) rfl (Nat.le_of_ble_eq_true rfl) ?_
  intro Γ E hQ hL hR hA hent hini
  have hAA : ∀ q, A q → jA Γ q := fun q h => by rw [hA]; exact h
  have hroom : ∀ (d mL : Nat) {mc ms : Nat}, d < 1 → mL ≤ 21 → (rmL d mc ms).frames + 1 ≤ (jR Γ).frames ∧ 8 + (mL + 11) + (rmL d mc ms).locals ≤ (jR Γ).locals := fun d mL mc ms h1 h2 => by rw [hR]; exact rmL_le h1 h2
  show J Γ 1 HP 0 0 0 [(0, .int p0)] []
  unfold f11_isLaw at hF
  refine j_blk (pc' := 3) (lv' := [(0, .int p0)]) (st' := [.long (Int64.ofNat 1), .long p0.toInt64]) E b_c11_isLaw_0_3 rfl ?_
  refine j_ldc2 (u := 2) E d_c11_isLaw_3 m_932 ?_
  replace hF := obd_at hF
  obtain ⟨v2, he1, hF⟩ := hF
  refine j_calls [.long p0.toInt64, .long (Int64.ofNat 1), .long 2] [] E w_RX11_49 (hroom 0 6 (by decide) (by decide)) hAA (c11_isIn _ κ A HP _ _ _  he1) (fun _ h => h) (fun _ _ _ h _ _ => h) rfl rfl (Nat.le_of_ble_eq_true rfl) d_c11_isLaw_6 ⟨Nat.zero_le _, Nat.zero_le _⟩ ?_
  replace hF := ogd_at hF
  obtain ⟨hb, hF⟩ := hF
  have e : res = v2 := g_inj hF
  subst e
  exact j_zret E hQ (isB_n hb) d_c11_isLaw_9 (fun _ h => h)
theorem b_c11_isOne_0_4 : bdec cX11_isOne 0 [.iload_n 1, .i2l, .lconst 0, .aload_n 0] = true := by decide +kernel
theorem d_c11_isOne_4 : decode cX11_isOne 4 = .ok (.getfield 9, 3) := by decide +kernel
theorem b_c11_isOne_7_1 : bdec cX11_isOne 7 [.iconst 0] = true := by decide +kernel
theorem d_c11_isOne_8 : decode cX11_isOne 8 = .ok (.iaload, 1) := by decide +kernel
theorem b_c11_isOne_9_3 : bdec cX11_isOne 9 [.iconst 1, .isub, .i2l] = true := by decide +kernel
theorem d_c11_isOne_12 : decode cX11_isOne 12 = .ok (.invokestatic 49, 3) := by decide +kernel
theorem d_c11_isOne_15 : decode cX11_isOne 15 = .ok (.ireturn, 1) := by decide +kernel
def f11_isOne (s0 : HM) (a0 : Nat) (p1 : Int32) : Option (Int32) := obd (hfld s0 [11] 0 a0) (fun v1 => orf v1 (fun b2 => obd (hald s0 b2 (Int32.ofInt 0)) (fun v3 => obd (f11_isIn p1.toInt64 (Int64.ofNat 0) ((v3 - (Int32.ofInt 1)).toInt64)) (fun v5 => ogd (isB v5) (some v5)))))
set_option maxRecDepth 100000 in
set_option maxHeartbeats 4000000 in
theorem c11_isOne (l : Launch) (κ : KP) (A : Nat → Prop) (s0 : HM) (a0 : Nat) (p1 : Int32) {res : Int32} (hF : f11_isOne s0 a0 p1 = some res) : Met l yX11_isOne (Cond.code yX11_isOne cX11_isOne 2 (some .boolean) :: WT) (rmL 1 0 0) (PP κ A [.ref a0, .int p1] (HS κ A s0)) (QQ (some (.int res)) (HS κ A s0) A) 0 0 A := by
  refine met_of (own := RX11) (by decide) rfl (Nat.le_of_ble_eq_true rfl) ?_
  intro Γ E hQ hL hR hA hent hini
  have hAA : ∀ q, A q → jA Γ q := fun q h => by rw [hA]; exact h
  have hroom : ∀ (d mL : Nat) {mc ms : Nat}, d < 1 → mL ≤ 21 → (rmL d mc ms).frames + 1 ≤ (jR Γ).frames ∧ 8 + (mL + 11) + (rmL d mc ms).locals ≤ (jR Γ).locals := fun d mL mc ms h1 h2 => by rw [hR]; exact rmL_le h1 h2
  show J Γ 2 (HS κ A s0) 0 0 0 [(0, .ref a0), (1, .int p1)] []
  unfold f11_isOne at hF
  refine j_blk (pc' := 4) (lv' := [(0, .ref a0), (1, .int p1)]) (st' := [.ref a0, .long (Int64.ofNat 0), .long p1.toInt64]) E b_c11_isOne_0_4 rfl ?_
  replace hF := obd_at hF
  obtain ⟨v1, ev1, hF⟩ := hF
  refine j_getf E fg_RX11_9 d_c11_isOne_4 ev1 ?_
  refine j_blk (pc' := 8) (lv' := [(0, .ref a0), (1, .int p1)]) (st' := [.int (Int32.ofInt 0), v1, .long (Int64.ofNat 0), .long p1.toInt64]) E b_c11_isOne_7_1 rfl ?_
  replace hF := orf_at hF
  obtain ⟨b2, rfl, hF⟩ := hF
  replace hF := obd_at hF
  obtain ⟨v3, ev3, hF⟩ := hF
  refine j_iald E d_c11_isOne_8 ev3 ?_
  refine j_blk (pc' := 12) (lv' := [(0, .ref a0), (1, .int p1)]) (st' := [.long ((v3 - (Int32.ofInt 1)).toInt64), .long (Int64.ofNat 0), .long p1.toInt64]) E b_c11_isOne_9_3 rfl ?_
  replace hF := obd_at hF
  obtain ⟨v5, he4, hF⟩ := hF
  refine j_calls [.long p1.toInt64, .long (Int64.ofNat 0), .long ((v3 - (Int32.ofInt 1)).toInt64)] [] E w_RX11_49 (hroom 0 6 (by decide) (by decide)) hAA (c11_isIn _ κ A (HS κ A s0) _ _ _  he4) (fun _ h => h) (fun _ _ _ h _ _ => h) rfl rfl (Nat.le_of_ble_eq_true rfl) d_c11_isOne_12 ⟨Nat.zero_le _, Nat.zero_le _⟩ ?_
  replace hF := ogd_at hF
  obtain ⟨hb, hF⟩ := hF
  have e : res = v5 := g_inj hF
  subst e
  exact j_zret E hQ (isB_n hb) d_c11_isOne_15 (fun _ h => h)
theorem b_c11_begins_0_1 : bdec cX11_begins 0 [.aload_n 0] = true := by decide +kernel
theorem d_c11_begins_1 : decode cX11_begins 1 = .ok (.getfield 9, 3) := by decide +kernel
theorem b_c11_begins_4_1 : bdec cX11_begins 4 [.aload_n 0] = true := by decide +kernel
theorem d_c11_begins_5 : decode cX11_begins 5 = .ok (.getfield 19, 3) := by decide +kernel
theorem d_c11_begins_8 : decode cX11_begins 8 = .ok (.invokestatic 59, 3) := by decide +kernel
theorem d_c11_begins_11 : decode cX11_begins 11 = .ok (.return_, 1) := by decide +kernel
def f11_begins (s0 : HM) (a0 : Nat) : Option (HM) := obd (hfld s0 [11] 0 a0) (fun v1 => obd (hfld s0 [11] 3 a0) (fun v2 => orf v2 (fun b3 => orf v1 (fun b4 => obd (f11_lays s0 b4 b3) (fun s6 => some s6)))))
set_option maxRecDepth 100000 in
set_option maxHeartbeats 4000000 in
theorem c11_begins (l : Launch) (κ : KP) (A : Nat → Prop) (s0 : HM) (a0 : Nat) {res : HM} (hF : f11_begins s0 a0 = some res) : Met l yX11_begins (Cond.code yX11_begins cX11_begins 1 none :: WT) (rmL 1 0 0) (PP κ A [.ref a0] (HS κ A s0)) (QQ none (HS κ A res) A) 0 0 A := by
  refine met_of (own := RX11) (by decide) rfl (Nat.le_of_ble_eq_true rfl) ?_
  intro Γ E hQ hL hR hA hent hini
  have hAA : ∀ q, A q → jA Γ q := fun q h => by rw [hA]; exact h
  have hroom : ∀ (d mL : Nat) {mc ms : Nat}, d < 1 → mL ≤ 21 → (rmL d mc ms).frames + 1 ≤ (jR Γ).frames ∧ 8 + (mL + 11) + (rmL d mc ms).locals ≤ (jR Γ).locals := fun d mL mc ms h1 h2 => by rw [hR]; exact rmL_le h1 h2
  show J Γ 1 (HS κ A s0) 0 0 0 [(0, .ref a0)] []
  unfold f11_begins at hF
  refine j_blk (pc' := 1) (lv' := [(0, .ref a0)]) (st' := [.ref a0]) E b_c11_begins_0_1 rfl ?_
  replace hF := obd_at hF
  obtain ⟨v1, ev1, hF⟩ := hF
  refine j_getf E fg_RX11_9 d_c11_begins_1 ev1 ?_
  refine j_blk (pc' := 5) (lv' := [(0, .ref a0)]) (st' := [.ref a0, v1]) E b_c11_begins_4_1 rfl ?_
  replace hF := obd_at hF
  obtain ⟨v2, ev2, hF⟩ := hF
  refine j_getf E fg_RX11_19 d_c11_begins_5 ev2 ?_
  replace hF := orf_at hF
  obtain ⟨b3, rfl, hF⟩ := hF
  replace hF := orf_at hF
  obtain ⟨b4, rfl, hF⟩ := hF
  replace hF := obd_at hF
  obtain ⟨s6, he5, hF⟩ := hF
  refine j_calls [.ref b4, .ref b3] [] E w_RX11_59 (hroom 0 3 (by decide) (by decide)) hAA (c11_lays _ κ A _ _ _  he5) (fun _ h => h) (fun _ _ _ h _ _ => h) rfl rfl (Nat.le_of_ble_eq_true rfl) d_c11_begins_8 ⟨Nat.zero_le _, Nat.zero_le _⟩ ?_
  have e : res = s6 := g_inj hF
  subst e
  exact j_vret E hQ d_c11_begins_11 (fun _ h => h)
theorem b_c11_ends_0_1 : bdec cX11_ends 0 [.aload_n 0] = true := by decide +kernel
theorem d_c11_ends_1 : decode cX11_ends 1 = .ok (.getfield 19, 3) := by decide +kernel
theorem b_c11_ends_4_1 : bdec cX11_ends 4 [.aload_n 0] = true := by decide +kernel
theorem d_c11_ends_5 : decode cX11_ends 5 = .ok (.getfield 9, 3) := by decide +kernel
theorem d_c11_ends_8 : decode cX11_ends 8 = .ok (.invokestatic 59, 3) := by decide +kernel
theorem d_c11_ends_11 : decode cX11_ends 11 = .ok (.return_, 1) := by decide +kernel
def f11_ends (s0 : HM) (a0 : Nat) : Option (HM) := obd (hfld s0 [11] 3 a0) (fun v1 => obd (hfld s0 [11] 0 a0) (fun v2 => orf v2 (fun b3 => orf v1 (fun b4 => obd (f11_lays s0 b4 b3) (fun s6 => some s6)))))
set_option maxRecDepth 100000 in
set_option maxHeartbeats 4000000 in
theorem c11_ends (l : Launch) (κ : KP) (A : Nat → Prop) (s0 : HM) (a0 : Nat) {res : HM} (hF : f11_ends s0 a0 = some res) : Met l yX11_ends (Cond.code yX11_ends cX11_ends 1 none :: WT) (rmL 1 0 0) (PP κ A [.ref a0] (HS κ A s0)) (QQ none (HS κ A res) A) 0 0 A := by
  refine met_of (own := RX11) (by decide) rfl (Nat.le_of_ble_eq_true rfl) ?_
  intro Γ E hQ hL hR hA hent hini
  have hAA : ∀ q, A q → jA Γ q := fun q h => by rw [hA]; exact h
  have hroom : ∀ (d mL : Nat) {mc ms : Nat}, d < 1 → mL ≤ 21 → (rmL d mc ms).frames + 1 ≤ (jR Γ).frames ∧ 8 + (mL + 11) + (rmL d mc ms).locals ≤ (jR Γ).locals := fun d mL mc ms h1 h2 => by rw [hR]; exact rmL_le h1 h2
  show J Γ 1 (HS κ A s0) 0 0 0 [(0, .ref a0)] []
  unfold f11_ends at hF
  refine j_blk (pc' := 1) (lv' := [(0, .ref a0)]) (st' := [.ref a0]) E b_c11_ends_0_1 rfl ?_
  replace hF := obd_at hF
  obtain ⟨v1, ev1, hF⟩ := hF
  refine j_getf E fg_RX11_19 d_c11_ends_1 ev1 ?_
  refine j_blk (pc' := 5) (lv' := [(0, .ref a0)]) (st' := [.ref a0, v1]) E b_c11_ends_4_1 rfl ?_
  replace hF := obd_at hF
  obtain ⟨v2, ev2, hF⟩ := hF
  refine j_getf E fg_RX11_9 d_c11_ends_5 ev2 ?_
  replace hF := orf_at hF
  obtain ⟨b3, rfl, hF⟩ := hF
  replace hF := orf_at hF
  obtain ⟨b4, rfl, hF⟩ := hF
  replace hF := obd_at hF
  obtain ⟨s6, he5, hF⟩ := hF
  refine j_calls [.ref b4, .ref b3] [] E w_RX11_59 (hroom 0 3 (by decide) (by decide)) hAA (c11_lays _ κ A _ _ _  he5) (fun _ h => h) (fun _ _ _ h _ _ => h) rfl rfl (Nat.le_of_ble_eq_true rfl) d_c11_ends_8 ⟨Nat.zero_le _, Nat.zero_le _⟩ ?_
  have e : res = s6 := g_inj hF
  subst e
  exact j_vret E hQ d_c11_ends_11 (fun _ h => h)
theorem b_c11_counts_0_2 : bdec cX11_counts 0 [.aload_n 0, .iload_n 1] = true := by decide +kernel
theorem d_c11_counts_2 : decode cX11_counts 2 = .ok (.invokevirtual 63, 3) := by decide +kernel
theorem d_c11_counts_5 : decode cX11_counts 5 = .ok (.invokestatic 67, 3) := by decide +kernel
theorem b_c11_counts_8_3 : bdec cX11_counts 8 [.istore_n 2, .aload_n 0, .iload_n 1] = true := by decide +kernel
theorem d_c11_counts_11 : decode cX11_counts 11 = .ok (.invokevirtual 70, 3) := by decide +kernel
theorem b_c11_counts_14_3 : bdec cX11_counts 14 [.istore_n 3, .aload_n 0, .iload_n 1] = true := by decide +kernel
theorem d_c11_counts_17 : decode cX11_counts 17 = .ok (.invokevirtual 73, 3) := by decide +kernel
theorem d_c11_counts_20 : decode cX11_counts 20 = .ok (.tableswitch 82 1 6 #[40, 82, 82, 51, 69, 80], 40) := by decide +kernel
theorem b_c11_counts_60_2 : bdec cX11_counts 60 [.iload_n 2, .iload_n 3] = true := by decide +kernel
theorem d_c11_counts_62 : decode cX11_counts 62 = .ok (.if_icmp .gt 7, 3) := by decide +kernel
theorem b_c11_counts_69_1 : bdec cX11_counts 69 [.iconst 0] = true := by decide +kernel
theorem d_c11_counts_70 : decode cX11_counts 70 = .ok (.ireturn, 1) := by decide +kernel
theorem b_c11_counts_65_1 : bdec cX11_counts 65 [.iconst 1] = true := by decide +kernel
theorem d_c11_counts_66 : decode cX11_counts 66 = .ok (.goto 4, 3) := by decide +kernel
theorem b_c11_counts_102_1 : bdec cX11_counts 102 [.iconst 1] = true := by decide +kernel
theorem d_c11_counts_103 : decode cX11_counts 103 = .ok (.ireturn, 1) := by decide +kernel
theorem b_c11_counts_71_2 : bdec cX11_counts 71 [.iload_n 2, .iload_n 3] = true := by decide +kernel
theorem d_c11_counts_73 : decode cX11_counts 73 = .ok (.if_icmp .le 10, 3) := by decide +kernel
theorem b_c11_counts_83_1 : bdec cX11_counts 83 [.iconst 1] = true := by decide +kernel
theorem d_c11_counts_84 : decode cX11_counts 84 = .ok (.goto 4, 3) := by decide +kernel
theorem d_c11_counts_88 : decode cX11_counts 88 = .ok (.ireturn, 1) := by decide +kernel
theorem b_c11_counts_76_2 : bdec cX11_counts 76 [.iload_n 2, .iconst 2] = true := by decide +kernel
theorem d_c11_counts_78 : decode cX11_counts 78 = .ok (.irem, 1) := by decide +kernel
theorem b_c11_counts_79_1 : bdec cX11_counts 79 [.iconst 1] = true := by decide +kernel
theorem d_c11_counts_80 : decode cX11_counts 80 = .ok (.if_icmp .ne 7, 3) := by decide +kernel
theorem b_c11_counts_87_1 : bdec cX11_counts 87 [.iconst 0] = true := by decide +kernel
theorem b_c11_counts_89_2 : bdec cX11_counts 89 [.iload_n 2, .iload_n 3] = true := by decide +kernel
theorem d_c11_counts_91 : decode cX11_counts 91 = .ok (.if_icmp .lt 7, 3) := by decide +kernel
theorem b_c11_counts_98_1 : bdec cX11_counts 98 [.iconst 0] = true := by decide +kernel
theorem d_c11_counts_99 : decode cX11_counts 99 = .ok (.ireturn, 1) := by decide +kernel
theorem b_c11_counts_94_1 : bdec cX11_counts 94 [.iconst 1] = true := by decide +kernel
theorem d_c11_counts_95 : decode cX11_counts 95 = .ok (.goto 4, 3) := by decide +kernel
theorem b_c11_counts_100_1 : bdec cX11_counts 100 [.iconst 0] = true := by decide +kernel
theorem d_c11_counts_101 : decode cX11_counts 101 = .ok (.ireturn, 1) := by decide +kernel
def f11_counts (s0 : HM) (a0 : Nat) (p1 : Int32) : Option (Int32) := ocl s0 a0 11 (obd (f11_beaten s0 a0 p1) (fun v2 => obd (f11_bits v2) (fun v4 => ocl s0 a0 11 (obd (f11_figure s0 a0 p1) (fun v6 => ocl s0 a0 11 (obd (f11_kind s0 a0 p1) (fun v8 => if v8 = 1 then (if v6 < v4 then (some (Int32.ofInt 0)) else (some (Int32.ofInt 1))) else (if v8 = 2 then (some (Int32.ofInt 1)) else (if v8 = 3 then (some (Int32.ofInt 1)) else (if v8 = 4 then (if v4 ≤ v6 then (some (Int32.ofInt 1)) else (onz (Int32.ofInt 2) (if (v4 - v4 / (Int32.ofInt 2) * (Int32.ofInt 2)) = (Int32.ofInt 1) then (some (Int32.ofInt 1)) else (some (Int32.ofInt 0))))) else (if v8 = 5 then (if v4 < v6 then (some (Int32.ofInt 0)) else (some (Int32.ofInt 1))) else (if v8 = 6 then (some (Int32.ofInt 0)) else (some (Int32.ofInt 1))))))))))))))
set_option maxRecDepth 100000 in
set_option maxHeartbeats 4000000 in
theorem c11_counts (l : Launch) (κ : KP) (A : Nat → Prop) (s0 : HM) (a0 : Nat) (p1 : Int32) {res : Int32} (hF : f11_counts s0 a0 p1 = some res) : Met l yX11_counts (Cond.code yX11_counts cX11_counts 4 (some .boolean) :: WT) (rmL 1 0 0) (PP κ A [.ref a0, .int p1] (HS κ A s0)) (QQ (some (.int res)) (HS κ A s0) A) 0 0 A := by
  refine met_of (own := RX11) (by decide) rfl (Nat.le_of_ble_eq_true rfl) ?_
  intro Γ E hQ hL hR hA hent hini
  have hAA : ∀ q, A q → jA Γ q := fun q h => by rw [hA]; exact h
  have hroom : ∀ (d mL : Nat) {mc ms : Nat}, d < 1 → mL ≤ 21 → (rmL d mc ms).frames + 1 ≤ (jR Γ).frames ∧ 8 + (mL + 11) + (rmL d mc ms).locals ≤ (jR Γ).locals := fun d mL mc ms h1 h2 => by rw [hR]; exact rmL_le h1 h2
  show J Γ 4 (HS κ A s0) 0 0 0 [(0, .ref a0), (1, .int p1)] []
  unfold f11_counts at hF
  refine j_blk (pc' := 2) (lv' := [(0, .ref a0), (1, .int p1)]) (st' := [.int p1, .ref a0]) E b_c11_counts_0_2 rfl ?_
  replace hF := ocl_at hF
  obtain ⟨hc, hF⟩ := hF
  replace hF := obd_at hF
  obtain ⟨v2, he1, hF⟩ := hF
  refine j_callv [.int p1] [] E w_RX11_63 (hroom 0 2 (by decide) (by decide)) hAA (c11_beaten _ κ A _ _ _  he1) (fun _ h => h) (fun _ _ _ h _ _ => h) (fun _ h => j_recv E h hc rfl) rfl rfl (Nat.le_of_ble_eq_true rfl) d_c11_counts_2 ⟨Nat.zero_le _, Nat.zero_le _⟩ ?_
  replace hF := obd_at hF
  obtain ⟨v4, he3, hF⟩ := hF
  refine j_calls [.int v2] [] E w_RX11_67 (hroom 0 3 (by decide) (by decide)) hAA (c11_bits _ κ A (HS κ A s0) _  he3) (fun _ h => h) (fun _ _ _ h _ _ => h) rfl rfl (Nat.le_of_ble_eq_true rfl) d_c11_counts_5 ⟨Nat.zero_le _, Nat.zero_le _⟩ ?_
  refine j_blk (pc' := 11) (lv' := [(2, .int v4), (0, .ref a0), (1, .int p1)]) (st' := [.int p1, .ref a0]) E b_c11_counts_8_3 rfl ?_
  replace hF := ocl_at hF
  obtain ⟨hc, hF⟩ := hF
  replace hF := obd_at hF
  obtain ⟨v6, he5, hF⟩ := hF
  refine j_callv [.int p1] [] E w_RX11_70 (hroom 0 2 (by decide) (by decide)) hAA (c11_figure _ κ A _ _ _  he5) (fun _ h => h) (fun _ _ _ h _ _ => h) (fun _ h => j_recv E h hc rfl) rfl rfl (Nat.le_of_ble_eq_true rfl) d_c11_counts_11 ⟨Nat.zero_le _, Nat.zero_le _⟩ ?_
  refine j_blk (pc' := 17) (lv' := [(3, .int v6), (2, .int v4), (0, .ref a0), (1, .int p1)]) (st' := [.int p1, .ref a0]) E b_c11_counts_14_3 rfl ?_
  replace hF := ocl_at hF
  obtain ⟨hc, hF⟩ := hF
  replace hF := obd_at hF
  obtain ⟨v8, he7, hF⟩ := hF
  refine j_callv [.int p1] [] E w_RX11_73 (hroom 0 2 (by decide) (by decide)) hAA (c11_kind _ κ A _ _ _  he7) (fun _ h => h) (fun _ _ _ h _ _ => h) (fun _ h => j_recv E h hc rfl) rfl rfl (Nat.le_of_ble_eq_true rfl) d_c11_counts_17 ⟨Nat.zero_le _, Nat.zero_le _⟩ ?_
  rcases Decidable.em (v8 = 1) with h9 | h9
  · replace hF := g_t hF h9
    refine j_tin (tgt := 60) (off := 40) E d_c11_counts_20 h9 (by decide) (by decide) (by decide) (by decide) ?_
    refine j_blk (pc' := 62) (lv' := [(3, .int v6), (2, .int v4), (0, .ref a0), (1, .int p1)]) (st' := [.int v6, .int v4]) E b_c11_counts_60_2 rfl ?_
    refine j_icmp_gt (tgt := 69) E d_c11_counts_62 (by decide) (fun h10 => ?_) (fun h10 => ?_)
    · replace hF := g_t hF h10
      refine j_blk (pc' := 70) (lv' := [(3, .int v6), (2, .int v4), (0, .ref a0), (1, .int p1)]) (st' := [.int (Int32.ofInt 0)]) E b_c11_counts_69_1 rfl ?_
      have e : res = Int32.ofInt 0 := g_inj hF
      subst e
      exact j_zret E hQ nb_0 d_c11_counts_70 (fun _ h => h)
    · replace hF := g_f hF h10
      refine j_blk (pc' := 66) (lv' := [(3, .int v6), (2, .int v4), (0, .ref a0), (1, .int p1)]) (st' := [.int (Int32.ofInt 1)]) E b_c11_counts_65_1 rfl ?_
      refine j_goto (tgt := 70) E d_c11_counts_66 (by decide) ?_
      have e : res = Int32.ofInt 1 := g_inj hF
      subst e
      exact j_zret E hQ nb_1 d_c11_counts_70 (fun _ h => h)
  · replace hF := g_f hF h9
    rcases Decidable.em (v8 = 2) with h11 | h11
    · replace hF := g_t hF h11
      refine j_tin (tgt := 102) (off := 82) E d_c11_counts_20 h11 (by decide) (by decide) (by decide) (by decide) ?_
      refine j_blk (pc' := 103) (lv' := [(3, .int v6), (2, .int v4), (0, .ref a0), (1, .int p1)]) (st' := [.int (Int32.ofInt 1)]) E b_c11_counts_102_1 rfl ?_
      have e : res = Int32.ofInt 1 := g_inj hF
      subst e
      exact j_zret E hQ nb_1 d_c11_counts_103 (fun _ h => h)
    · replace hF := g_f hF h11
      rcases Decidable.em (v8 = 3) with h12 | h12
      · replace hF := g_t hF h12
        refine j_tin (tgt := 102) (off := 82) E d_c11_counts_20 h12 (by decide) (by decide) (by decide) (by decide) ?_
        refine j_blk (pc' := 103) (lv' := [(3, .int v6), (2, .int v4), (0, .ref a0), (1, .int p1)]) (st' := [.int (Int32.ofInt 1)]) E b_c11_counts_102_1 rfl ?_
        have e : res = Int32.ofInt 1 := g_inj hF
        subst e
        exact j_zret E hQ nb_1 d_c11_counts_103 (fun _ h => h)
      · replace hF := g_f hF h12
        rcases Decidable.em (v8 = 4) with h13 | h13
        · replace hF := g_t hF h13
          refine j_tin (tgt := 71) (off := 51) E d_c11_counts_20 h13 (by decide) (by decide) (by decide) (by decide) ?_
          refine j_blk (pc' := 73) (lv' := [(3, .int v6), (2, .int v4), (0, .ref a0), (1, .int p1)]) (st' := [.int v6, .int v4]) E b_c11_counts_71_2 rfl ?_
          refine j_icmp_le (tgt := 83) E d_c11_counts_73 (by decide) (fun h14 => ?_) (fun h14 => ?_)
          · replace hF := g_t hF h14
            refine j_blk (pc' := 84) (lv' := [(3, .int v6), (2, .int v4), (0, .ref a0), (1, .int p1)]) (st' := [.int (Int32.ofInt 1)]) E b_c11_counts_83_1 rfl ?_
            refine j_goto (tgt := 88) E d_c11_counts_84 (by decide) ?_
            have e : res = Int32.ofInt 1 := g_inj hF
            subst e
            exact j_zret E hQ nb_1 d_c11_counts_88 (fun _ h => h)
          · replace hF := g_f hF h14
            refine j_blk (pc' := 78) (lv' := [(3, .int v6), (2, .int v4), (0, .ref a0), (1, .int p1)]) (st' := [.int (Int32.ofInt 2), .int v4]) E b_c11_counts_76_2 rfl ?_
            replace hF := onz_at hF
            obtain ⟨h0, hF⟩ := hF
            refine j_irem E d_c11_counts_78 h0 ?_
            refine j_blk (pc' := 80) (lv' := [(3, .int v6), (2, .int v4), (0, .ref a0), (1, .int p1)]) (st' := [.int (Int32.ofInt 1), .int (v4 - v4 / (Int32.ofInt 2) * (Int32.ofInt 2))]) E b_c11_counts_79_1 rfl ?_
            refine j_icmp_ne (tgt := 87) E d_c11_counts_80 (by decide) (fun h15 => ?_) (fun h15 => ?_)
            · replace hF := g_f hF h15
              refine j_blk (pc' := 88) (lv' := [(3, .int v6), (2, .int v4), (0, .ref a0), (1, .int p1)]) (st' := [.int (Int32.ofInt 0)]) E b_c11_counts_87_1 rfl ?_
              have e : res = Int32.ofInt 0 := g_inj hF
              subst e
              exact j_zret E hQ nb_0 d_c11_counts_88 (fun _ h => h)
            · replace hF := g_t hF h15
              refine j_blk (pc' := 84) (lv' := [(3, .int v6), (2, .int v4), (0, .ref a0), (1, .int p1)]) (st' := [.int (Int32.ofInt 1)]) E b_c11_counts_83_1 rfl ?_
              refine j_goto (tgt := 88) E d_c11_counts_84 (by decide) ?_
              have e : res = Int32.ofInt 1 := g_inj hF
              subst e
              exact j_zret E hQ nb_1 d_c11_counts_88 (fun _ h => h)
        · replace hF := g_f hF h13
          rcases Decidable.em (v8 = 5) with h16 | h16
          · replace hF := g_t hF h16
            refine j_tin (tgt := 89) (off := 69) E d_c11_counts_20 h16 (by decide) (by decide) (by decide) (by decide) ?_
            refine j_blk (pc' := 91) (lv' := [(3, .int v6), (2, .int v4), (0, .ref a0), (1, .int p1)]) (st' := [.int v6, .int v4]) E b_c11_counts_89_2 rfl ?_
            refine j_icmp_lt (tgt := 98) E d_c11_counts_91 (by decide) (fun h17 => ?_) (fun h17 => ?_)
            · replace hF := g_t hF h17
              refine j_blk (pc' := 99) (lv' := [(3, .int v6), (2, .int v4), (0, .ref a0), (1, .int p1)]) (st' := [.int (Int32.ofInt 0)]) E b_c11_counts_98_1 rfl ?_
              have e : res = Int32.ofInt 0 := g_inj hF
              subst e
              exact j_zret E hQ nb_0 d_c11_counts_99 (fun _ h => h)
            · replace hF := g_f hF h17
              refine j_blk (pc' := 95) (lv' := [(3, .int v6), (2, .int v4), (0, .ref a0), (1, .int p1)]) (st' := [.int (Int32.ofInt 1)]) E b_c11_counts_94_1 rfl ?_
              refine j_goto (tgt := 99) E d_c11_counts_95 (by decide) ?_
              have e : res = Int32.ofInt 1 := g_inj hF
              subst e
              exact j_zret E hQ nb_1 d_c11_counts_99 (fun _ h => h)
          · replace hF := g_f hF h16
            rcases Decidable.em (v8 = 6) with h18 | h18
            · replace hF := g_t hF h18
              refine j_tin (tgt := 100) (off := 80) E d_c11_counts_20 h18 (by decide) (by decide) (by decide) (by decide) ?_
              refine j_blk (pc' := 101) (lv' := [(3, .int v6), (2, .int v4), (0, .ref a0), (1, .int p1)]) (st' := [.int (Int32.ofInt 0)]) E b_c11_counts_100_1 rfl ?_
              have e : res = Int32.ofInt 0 := g_inj hF
              subst e
              exact j_zret E hQ nb_0 d_c11_counts_101 (fun _ h => h)
            · replace hF := g_f hF h18
              have h9 := lv_neT h9 (a := 1) (by decide)
              have h11 := lv_neT h11 (a := 2) (by decide)
              have h12 := lv_neT h12 (a := 3) (by decide)
              have h13 := lv_neT h13 (a := 4) (by decide)
              have h16 := lv_neT h16 (a := 5) (by decide)
              have h18 := lv_neT h18 (a := 6) (by decide)
              refine j_tout (tgt := 102) E d_c11_counts_20 (by omega) (by decide) ?_
              refine j_blk (pc' := 103) (lv' := [(3, .int v6), (2, .int v4), (0, .ref a0), (1, .int p1)]) (st' := [.int (Int32.ofInt 1)]) E b_c11_counts_102_1 rfl ?_
              have e : res = Int32.ofInt 1 := g_inj hF
              subst e
              exact j_zret E hQ nb_1 d_c11_counts_103 (fun _ h => h)
theorem b_c11_skill_0_2 : bdec cX11_skill 0 [.aload_n 0, .iload_n 1] = true := by decide +kernel
theorem d_c11_skill_2 : decode cX11_skill 2 = .ok (.invokevirtual 73, 3) := by decide +kernel
theorem b_c11_skill_5_2 : bdec cX11_skill 5 [.aload_n 0, .iload_n 1] = true := by decide +kernel
theorem d_c11_skill_7 : decode cX11_skill 7 = .ok (.invokevirtual 70, 3) := by decide +kernel
theorem d_c11_skill_10 : decode cX11_skill 10 = .ok (.invokestatic 76, 3) := by decide +kernel
theorem d_c11_skill_13 : decode cX11_skill 13 = .ok (.ireturn, 1) := by decide +kernel
def f11_skill (s0 : HM) (a0 : Nat) (p1 : Int32) : Option (Int32) := ocl s0 a0 11 (obd (f11_kind s0 a0 p1) (fun v2 => ocl s0 a0 11 (obd (f11_figure s0 a0 p1) (fun v4 => obd (f11_skillBy v2 v4) (fun v6 => some v6)))))
set_option maxRecDepth 100000 in
set_option maxHeartbeats 4000000 in
theorem c11_skill (l : Launch) (κ : KP) (A : Nat → Prop) (s0 : HM) (a0 : Nat) (p1 : Int32) {res : Int32} (hF : f11_skill s0 a0 p1 = some res) : Met l yX11_skill (Cond.code yX11_skill cX11_skill 2 (some .int) :: WT) (rmL 1 0 0) (PP κ A [.ref a0, .int p1] (HS κ A s0)) (QQ (some (.int res)) (HS κ A s0) A) 0 0 A := by
  refine met_of (own := RX11) (by decide) rfl (Nat.le_of_ble_eq_true rfl) ?_
  intro Γ E hQ hL hR hA hent hini
  have hAA : ∀ q, A q → jA Γ q := fun q h => by rw [hA]; exact h
  have hroom : ∀ (d mL : Nat) {mc ms : Nat}, d < 1 → mL ≤ 21 → (rmL d mc ms).frames + 1 ≤ (jR Γ).frames ∧ 8 + (mL + 11) + (rmL d mc ms).locals ≤ (jR Γ).locals := fun d mL mc ms h1 h2 => by rw [hR]; exact rmL_le h1 h2
  show J Γ 2 (HS κ A s0) 0 0 0 [(0, .ref a0), (1, .int p1)] []
  unfold f11_skill at hF
  refine j_blk (pc' := 2) (lv' := [(0, .ref a0), (1, .int p1)]) (st' := [.int p1, .ref a0]) E b_c11_skill_0_2 rfl ?_
  replace hF := ocl_at hF
  obtain ⟨hc, hF⟩ := hF
  replace hF := obd_at hF
  obtain ⟨v2, he1, hF⟩ := hF
  refine j_callv [.int p1] [] E w_RX11_73 (hroom 0 2 (by decide) (by decide)) hAA (c11_kind _ κ A _ _ _  he1) (fun _ h => h) (fun _ _ _ h _ _ => h) (fun _ h => j_recv E h hc rfl) rfl rfl (Nat.le_of_ble_eq_true rfl) d_c11_skill_2 ⟨Nat.zero_le _, Nat.zero_le _⟩ ?_
  refine j_blk (pc' := 7) (lv' := [(0, .ref a0), (1, .int p1)]) (st' := [.int p1, .ref a0, .int v2]) E b_c11_skill_5_2 rfl ?_
  replace hF := ocl_at hF
  obtain ⟨hc, hF⟩ := hF
  replace hF := obd_at hF
  obtain ⟨v4, he3, hF⟩ := hF
  refine j_callv [.int p1] [.int v2] E w_RX11_70 (hroom 0 2 (by decide) (by decide)) hAA (c11_figure _ κ A _ _ _  he3) (fun _ h => h) (fun _ _ _ h _ _ => h) (fun _ h => j_recv E h hc rfl) rfl rfl (Nat.le_of_ble_eq_true rfl) d_c11_skill_7 ⟨Nat.zero_le _, Nat.zero_le _⟩ ?_
  replace hF := obd_at hF
  obtain ⟨v6, he5, hF⟩ := hF
  refine j_calls [.int v2, .int v4] [] E w_RX11_76 (hroom 0 2 (by decide) (by decide)) hAA (c11_skillBy _ κ A (HS κ A s0) _ _  he5) (fun _ h => h) (fun _ _ _ h _ _ => h) rfl rfl (Nat.le_of_ble_eq_true rfl) d_c11_skill_10 ⟨Nat.zero_le _, Nat.zero_le _⟩ ?_
  have e : res = v6 := g_inj hF
  subst e
  exact j_iret E hQ d_c11_skill_13 (fun _ h => h)
theorem b_c11_beats_0_5 : bdec cX11_beats 0 [.aload_n 0, .iload_n 1, .iconst 2, .aload_n 0, .iload_n 1] = true := by decide +kernel
theorem d_c11_beats_5 : decode cX11_beats 5 = .ok (.invokevirtual 63, 3) := by decide +kernel
theorem b_c11_beats_8_4 : bdec cX11_beats 8 [.iconst 1, .iload_n 2, .ishl, .ior] = true := by decide +kernel
theorem d_c11_beats_12 : decode cX11_beats 12 = .ok (.invokevirtual 80, 3) := by decide +kernel
theorem b_c11_beats_15_5 : bdec cX11_beats 15 [.aload_n 0, .iload_n 2, .iconst 2, .aload_n 0, .iload_n 2] = true := by decide +kernel
theorem d_c11_beats_20 : decode cX11_beats 20 = .ok (.invokevirtual 63, 3) := by decide +kernel
theorem b_c11_beats_23_6 : bdec cX11_beats 23 [.iconst 1, .iload_n 1, .ishl, .iconst (-1), .ixor, .iand] = true := by decide +kernel
theorem d_c11_beats_29 : decode cX11_beats 29 = .ok (.invokevirtual 80, 3) := by decide +kernel
theorem d_c11_beats_32 : decode cX11_beats 32 = .ok (.return_, 1) := by decide +kernel
def f11_beats (s0 : HM) (a0 : Nat) (p1 : Int32) (p2 : Int32) : Option (HM) := ocl s0 a0 11 (obd (f11_beaten s0 a0 p1) (fun v2 => ocl s0 a0 11 (obd (f11_puts s0 a0 p1 (Int32.ofInt 2) (v2 ||| ((Int32.ofInt 1) <<< (p2 &&& 31)))) (fun s4 => ocl s4 a0 11 (obd (f11_beaten s4 a0 p2) (fun v6 => ocl s4 a0 11 (obd (f11_puts s4 a0 p2 (Int32.ofInt 2) (v6 &&& (((Int32.ofInt 1) <<< (p1 &&& 31)) ^^^ (Int32.ofInt (-1))))) (fun s8 => some s8))))))))
set_option maxRecDepth 100000 in
set_option maxHeartbeats 4000000 in
theorem c11_beats (l : Launch) (κ : KP) (A : Nat → Prop) (s0 : HM) (a0 : Nat) (p1 : Int32) (p2 : Int32) {res : HM} (hF : f11_beats s0 a0 p1 p2 = some res) : Met l yX11_beats (Cond.code yX11_beats cX11_beats 3 none :: WT) (rmL 1 0 0) (PP κ A [.ref a0, .int p1, .int p2] (HS κ A s0)) (QQ none (HS κ A res) A) 0 0 A := by
  refine met_of (own := RX11) (by decide) rfl (Nat.le_of_ble_eq_true rfl) ?_
  intro Γ E hQ hL hR hA hent hini
  have hAA : ∀ q, A q → jA Γ q := fun q h => by rw [hA]; exact h
  have hroom : ∀ (d mL : Nat) {mc ms : Nat}, d < 1 → mL ≤ 21 → (rmL d mc ms).frames + 1 ≤ (jR Γ).frames ∧ 8 + (mL + 11) + (rmL d mc ms).locals ≤ (jR Γ).locals := fun d mL mc ms h1 h2 => by rw [hR]; exact rmL_le h1 h2
  show J Γ 3 (HS κ A s0) 0 0 0 [(0, .ref a0), (1, .int p1), (2, .int p2)] []
  unfold f11_beats at hF
  refine j_blk (pc' := 5) (lv' := [(0, .ref a0), (1, .int p1), (2, .int p2)]) (st' := [.int p1, .ref a0, .int (Int32.ofInt 2), .int p1, .ref a0]) E b_c11_beats_0_5 rfl ?_
  replace hF := ocl_at hF
  obtain ⟨hc, hF⟩ := hF
  replace hF := obd_at hF
  obtain ⟨v2, he1, hF⟩ := hF
  refine j_callv [.int p1] [.int (Int32.ofInt 2), .int p1, .ref a0] E w_RX11_63 (hroom 0 2 (by decide) (by decide)) hAA (c11_beaten _ κ A _ _ _  he1) (fun _ h => h) (fun _ _ _ h _ _ => h) (fun _ h => j_recv E h hc rfl) rfl rfl (Nat.le_of_ble_eq_true rfl) d_c11_beats_5 ⟨Nat.zero_le _, Nat.zero_le _⟩ ?_
  refine j_blk (pc' := 12) (lv' := [(0, .ref a0), (1, .int p1), (2, .int p2)]) (st' := [.int (v2 ||| ((Int32.ofInt 1) <<< (p2 &&& 31))), .int (Int32.ofInt 2), .int p1, .ref a0]) E b_c11_beats_8_4 rfl ?_
  replace hF := ocl_at hF
  obtain ⟨hc, hF⟩ := hF
  replace hF := obd_at hF
  obtain ⟨s4, he3, hF⟩ := hF
  refine j_callv [.int p1, .int (Int32.ofInt 2), .int (v2 ||| ((Int32.ofInt 1) <<< (p2 &&& 31)))] [] E w_RX11_80 (hroom 0 4 (by decide) (by decide)) hAA (c11_puts _ κ A _ _ _ _ _  he3) (fun _ h => h) (fun _ _ _ h _ _ => h) (fun _ h => j_recv E h hc rfl) rfl rfl (Nat.le_of_ble_eq_true rfl) d_c11_beats_12 ⟨Nat.zero_le _, Nat.zero_le _⟩ ?_
  refine j_blk (pc' := 20) (lv' := [(0, .ref a0), (1, .int p1), (2, .int p2)]) (st' := [.int p2, .ref a0, .int (Int32.ofInt 2), .int p2, .ref a0]) E b_c11_beats_15_5 rfl ?_
  replace hF := ocl_at hF
  obtain ⟨hc, hF⟩ := hF
  replace hF := obd_at hF
  obtain ⟨v6, he5, hF⟩ := hF
  refine j_callv [.int p2] [.int (Int32.ofInt 2), .int p2, .ref a0] E w_RX11_63 (hroom 0 2 (by decide) (by decide)) hAA (c11_beaten _ κ A _ _ _  he5) (fun _ h => h) (fun _ _ _ h _ _ => h) (fun _ h => j_recv E h hc rfl) rfl rfl (Nat.le_of_ble_eq_true rfl) d_c11_beats_20 ⟨Nat.zero_le _, Nat.zero_le _⟩ ?_
  refine j_blk (pc' := 29) (lv' := [(0, .ref a0), (1, .int p1), (2, .int p2)]) (st' := [.int (v6 &&& (((Int32.ofInt 1) <<< (p1 &&& 31)) ^^^ (Int32.ofInt (-1)))), .int (Int32.ofInt 2), .int p2, .ref a0]) E b_c11_beats_23_6 rfl ?_
  replace hF := ocl_at hF
  obtain ⟨hc, hF⟩ := hF
  replace hF := obd_at hF
  obtain ⟨s8, he7, hF⟩ := hF
  refine j_callv [.int p2, .int (Int32.ofInt 2), .int (v6 &&& (((Int32.ofInt 1) <<< (p1 &&& 31)) ^^^ (Int32.ofInt (-1))))] [] E w_RX11_80 (hroom 0 4 (by decide) (by decide)) hAA (c11_puts _ κ A _ _ _ _ _  he7) (fun _ h => h) (fun _ _ _ h _ _ => h) (fun _ h => j_recv E h hc rfl) rfl rfl (Nat.le_of_ble_eq_true rfl) d_c11_beats_29 ⟨Nat.zero_le _, Nat.zero_le _⟩ ?_
  have e : res = s8 := g_inj hF
  subst e
  exact j_vret E hQ d_c11_beats_32 (fun _ h => h)
theorem b_c11_readsDigits_0_2 : bdec cX11_readsDigits 0 [.iconst 0, .istore_n 2] = true := by decide +kernel
theorem b_c11_readsDigits_2_2 : bdec cX11_readsDigits 2 [.iload_n 2, .iload_n 1] = true := by decide +kernel
theorem d_c11_readsDigits_4 : decode cX11_readsDigits 4 = .ok (.if_icmp .ge 51, 3) := by decide +kernel
theorem b_c11_readsDigits_7_1 : bdec cX11_readsDigits 7 [.aload_n 0] = true := by decide +kernel
theorem d_c11_readsDigits_8 : decode cX11_readsDigits 8 = .ok (.invokevirtual 103, 3) := by decide +kernel
theorem b_c11_readsDigits_11_1 : bdec cX11_readsDigits 11 [.i2l] = true := by decide +kernel
theorem d_c11_readsDigits_12 : decode cX11_readsDigits 12 = .ok (.ldc2_w 107, 3) := by decide +kernel
theorem d_c11_readsDigits_15 : decode cX11_readsDigits 15 = .ok (.ldc2_w 109, 3) := by decide +kernel
theorem d_c11_readsDigits_18 : decode cX11_readsDigits 18 = .ok (.invokestatic 49, 3) := by decide +kernel
theorem d_c11_readsDigits_21 : decode cX11_readsDigits 21 = .ok (.ifCond .ne 5, 3) := by decide +kernel
theorem b_c11_readsDigits_26_1 : bdec cX11_readsDigits 26 [.aload_n 0] = true := by decide +kernel
theorem d_c11_readsDigits_27 : decode cX11_readsDigits 27 = .ok (.getfield 40, 3) := by decide +kernel
theorem b_c11_readsDigits_30_2 : bdec cX11_readsDigits 30 [.iload_n 2, .aload_n 0] = true := by decide +kernel
theorem d_c11_readsDigits_32 : decode cX11_readsDigits 32 = .ok (.invokevirtual 103, 3) := by decide +kernel
theorem b_c11_readsDigits_35_2 : bdec cX11_readsDigits 35 [.bipush 48, .isub] = true := by decide +kernel
theorem d_c11_readsDigits_38 : decode cX11_readsDigits 38 = .ok (.iastore, 1) := by decide +kernel
theorem b_c11_readsDigits_39_2 : bdec cX11_readsDigits 39 [.aload_n 0, .dup] = true := by decide +kernel
theorem d_c11_readsDigits_41 : decode cX11_readsDigits 41 = .ok (.getfield 94, 3) := by decide +kernel
theorem b_c11_readsDigits_44_2 : bdec cX11_readsDigits 44 [.iconst 1, .iadd] = true := by decide +kernel
theorem d_c11_readsDigits_46 : decode cX11_readsDigits 46 = .ok (.putfield 94, 3) := by decide +kernel
theorem b_c11_readsDigits_49_1 : bdec cX11_readsDigits 49 [.iinc 2 1] = true := by decide +kernel
theorem d_c11_readsDigits_52 : decode cX11_readsDigits 52 = .ok (.goto (-50), 3) := by decide +kernel
theorem b_c11_readsDigits_24_1 : bdec cX11_readsDigits 24 [.iconst 0] = true := by decide +kernel
theorem d_c11_readsDigits_25 : decode cX11_readsDigits 25 = .ok (.ireturn, 1) := by decide +kernel
theorem b_c11_readsDigits_55_1 : bdec cX11_readsDigits 55 [.iconst 1] = true := by decide +kernel
theorem d_c11_readsDigits_56 : decode cX11_readsDigits 56 = .ok (.ireturn, 1) := by decide +kernel
def f11_readsDigits_L2 (a0 : Nat) (p1 : Int32) (w : Int32 × HM) : Option ((Int32 × HM) ⊕ ((Int32 × HM) ⊕ (HM))) := match w with
  | (x2_2, s2) => if p1 ≤ x2_2 then (some (.inr (.inr s2))) else (ocl s2 a0 11 (obd (f11_here s2 a0) (fun v4 => obd (f11_isIn v4.toInt64 48 57) (fun v6 => if v6 = 0 then (some (.inr (.inl (Int32.ofInt 0, s2)))) else (obd (hfld s2 [11] 15 a0) (fun v8 => orf v8 (fun b9 => ocl s2 a0 11 (obd (f11_here s2 a0) (fun v11 => obd (hast s2 b9 x2_2 (v11 - ((Int8.ofInt 48).toInt32))) (fun s12 => obd (hfi s12 [11] 12 a0) (fun v13 => obd (hput s12 [11] 12 a0 (.int (v13 + (Int32.ofInt 1)))) (fun s14 => some (.inl (x2_2 + Int32.ofInt 1, s14))))))))))))))
def f11_readsDigits (s0 : HM) (a0 : Nat) (p1 : Int32) : Option (Int32 × HM) := obd (iter (f11_readsDigits_L2 a0 p1) FU (Int32.ofInt 0, s0)) (fun o1 => osm o1 (fun o1 => some o1) (fun o1 => match o1 with | t2 => some (Int32.ofInt 1, t2)))
set_option maxRecDepth 100000 in
set_option maxHeartbeats 4000000 in
theorem c11_readsDigits (l : Launch) (κ : KP) (A : Nat → Prop) (s0 : HM) (a0 : Nat) (p1 : Int32) {res : Int32 × HM} (hF : f11_readsDigits s0 a0 p1 = some res) : Met l yX11_readsDigits (Cond.code yX11_readsDigits cX11_readsDigits 3 (some .boolean) :: WT) (rmL 1 0 0) (PP κ A [.ref a0, .int p1] (HS κ A s0)) (QQ (some (.int res.1)) (HS κ A res.2) A) 0 0 A := by
  refine met_of (own := RX11) (by decide) rfl (Nat.le_of_ble_eq_true rfl) ?_
  intro Γ E hQ hL hR hA hent hini
  have hAA : ∀ q, A q → jA Γ q := fun q h => by rw [hA]; exact h
  have hroom : ∀ (d mL : Nat) {mc ms : Nat}, d < 1 → mL ≤ 21 → (rmL d mc ms).frames + 1 ≤ (jR Γ).frames ∧ 8 + (mL + 11) + (rmL d mc ms).locals ≤ (jR Γ).locals := fun d mL mc ms h1 h2 => by rw [hR]; exact rmL_le h1 h2
  show J Γ 3 (HS κ A s0) 0 0 0 [(0, .ref a0), (1, .int p1)] []
  unfold f11_readsDigits at hF
  refine j_blk (pc' := 2) (lv' := [(2, .int (Int32.ofInt 0)), (0, .ref a0), (1, .int p1)]) (st' := []) E b_c11_readsDigits_0_2 rfl ?_
  refine j_lv [1, 2, 0] rfl ?_
  replace hF := obd_at hF
  obtain ⟨o1, ho1, hF⟩ := hF
  have lpo1 : ∀ (fu : Nat) (w : Int32 × HM) (o : (Int32 × HM) ⊕ (HM)), iter (f11_readsDigits_L2 a0 p1) fu w = some o → (fun (o : (Int32 × HM) ⊕ (HM)) => match o with | .inl r => r = res | .inr o => J Γ 3 (HS κ A o) 0 0 55 [] []) o → (fun (w : Int32 × HM) => J Γ 3 (HS κ A w.2) 0 0 2 [(0, .ref a0), (1, .int p1), (2, .int w.1)] []) w := by
    refine j_iter (P := fun (w : Int32 × HM) => J Γ 3 (HS κ A w.2) 0 0 2 [(0, .ref a0), (1, .int p1), (2, .int w.1)] []) (G := fun (o : (Int32 × HM) ⊕ (HM)) => match o with | .inl r => r = res | .inr o => J Γ 3 (HS κ A o) 0 0 55 [] []) ?_
    rintro ⟨x2_2, s2⟩ q hF hI hO
    show J Γ 3 (HS κ A s2) 0 0 2 [(0, .ref a0), (1, .int p1), (2, .int x2_2)] []
    unfold f11_readsDigits_L2 at hF
    refine j_blk (pc' := 4) (lv' := [(0, .ref a0), (1, .int p1), (2, .int x2_2)]) (st' := [.int p1, .int x2_2]) E b_c11_readsDigits_2_2 rfl ?_
    refine j_icmp_ge (tgt := 55) E d_c11_readsDigits_4 (by decide) (fun h2 => ?_) (fun h2 => ?_)
    · replace hF := g_t hF h2
      refine j_lv [] rfl ?_
      exact hO _ (g_inj hF)
    · replace hF := g_f hF h2
      refine j_blk (pc' := 8) (lv' := [(0, .ref a0), (1, .int p1), (2, .int x2_2)]) (st' := [.ref a0]) E b_c11_readsDigits_7_1 rfl ?_
      replace hF := ocl_at hF
      obtain ⟨hc, hF⟩ := hF
      replace hF := obd_at hF
      obtain ⟨v4, he3, hF⟩ := hF
      refine j_callv [] [] E w_RX11_103 (hroom 0 1 (by decide) (by decide)) hAA (c11_here _ κ A _ _  he3) (fun _ h => h) (fun _ _ _ h _ _ => h) (fun _ h => j_recv E h hc rfl) rfl rfl (Nat.le_of_ble_eq_true rfl) d_c11_readsDigits_8 ⟨Nat.zero_le _, Nat.zero_le _⟩ ?_
      refine j_blk (pc' := 12) (lv' := [(0, .ref a0), (1, .int p1), (2, .int x2_2)]) (st' := [.long v4.toInt64]) E b_c11_readsDigits_11_1 rfl ?_
      refine j_ldc2 (u := 48) E d_c11_readsDigits_12 m_892 ?_
      refine j_ldc2 (u := 57) E d_c11_readsDigits_15 m_893 ?_
      replace hF := obd_at hF
      obtain ⟨v6, he5, hF⟩ := hF
      refine j_calls [.long v4.toInt64, .long 48, .long 57] [] E w_RX11_49 (hroom 0 6 (by decide) (by decide)) hAA (c11_isIn _ κ A (HS κ A s2) _ _ _  he5) (fun _ h => h) (fun _ _ _ h _ _ => h) rfl rfl (Nat.le_of_ble_eq_true rfl) d_c11_readsDigits_18 ⟨Nat.zero_le _, Nat.zero_le _⟩ ?_
      refine j_if_ne (tgt := 26) E d_c11_readsDigits_21 (by decide) (fun h7 => ?_) (fun h7 => ?_)
      · replace hF := g_f hF h7
        refine j_blk (pc' := 27) (lv' := [(0, .ref a0), (1, .int p1), (2, .int x2_2)]) (st' := [.ref a0]) E b_c11_readsDigits_26_1 rfl ?_
        replace hF := obd_at hF
        obtain ⟨v8, ev8, hF⟩ := hF
        refine j_getf E fg_RX11_40 d_c11_readsDigits_27 ev8 ?_
        refine j_blk (pc' := 32) (lv' := [(0, .ref a0), (1, .int p1), (2, .int x2_2)]) (st' := [.ref a0, .int x2_2, v8]) E b_c11_readsDigits_30_2 rfl ?_
        replace hF := orf_at hF
        obtain ⟨b9, rfl, hF⟩ := hF
        replace hF := ocl_at hF
        obtain ⟨hc, hF⟩ := hF
        replace hF := obd_at hF
        obtain ⟨v11, he10, hF⟩ := hF
        refine j_callv [] [.int x2_2, .ref b9] E w_RX11_103 (hroom 0 1 (by decide) (by decide)) hAA (c11_here _ κ A _ _  he10) (fun _ h => h) (fun _ _ _ h _ _ => h) (fun _ h => j_recv E h hc rfl) rfl rfl (Nat.le_of_ble_eq_true rfl) d_c11_readsDigits_32 ⟨Nat.zero_le _, Nat.zero_le _⟩ ?_
        refine j_blk (pc' := 38) (lv' := [(0, .ref a0), (1, .int p1), (2, .int x2_2)]) (st' := [.int (v11 - ((Int8.ofInt 48).toInt32)), .int x2_2, .ref b9]) E b_c11_readsDigits_35_2 rfl ?_
        replace hF := obd_at hF
        obtain ⟨s12, es12, hF⟩ := hF
        refine j_iast E d_c11_readsDigits_38 es12 hAA ?_
        refine j_blk (pc' := 41) (lv' := [(0, .ref a0), (1, .int p1), (2, .int x2_2)]) (st' := [.ref a0, .ref a0]) E b_c11_readsDigits_39_2 rfl ?_
        replace hF := obd_at hF
        obtain ⟨v13, ev13, hF⟩ := hF
        refine j_getI E fg_RX11_94 d_c11_readsDigits_41 ev13 ?_
        refine j_blk (pc' := 46) (lv' := [(0, .ref a0), (1, .int p1), (2, .int x2_2)]) (st' := [.int (v13 + (Int32.ofInt 1)), .ref a0]) E b_c11_readsDigits_44_2 rfl ?_
        replace hF := obd_at hF
        obtain ⟨s14, es14, hF⟩ := hF
        refine j_put E fp_RX11_94 d_c11_readsDigits_46 rfl rfl es14 hAA ?_
        refine j_blk (pc' := 52) (lv' := [(2, .int (x2_2 + Int32.ofInt 1)), (0, .ref a0), (1, .int p1)]) (st' := []) E b_c11_readsDigits_49_1 rfl ?_
        refine j_goto (tgt := 2) E d_c11_readsDigits_52 (by decide) ?_
        refine j_lv [1, 2, 0] rfl ?_
        exact hI _ (g_inj hF)
      · replace hF := g_t hF h7
        refine j_blk (pc' := 25) (lv' := [(0, .ref a0), (1, .int p1), (2, .int x2_2)]) (st' := [.int (Int32.ofInt 0)]) E b_c11_readsDigits_24_1 rfl ?_
        have e : (Int32.ofInt 0, s2) = res := hO _ (g_inj hF)
        subst e
        exact j_zret E hQ nb_0 d_c11_readsDigits_25 (fun _ h => h)
  refine lpo1 FU (Int32.ofInt 0, s0) o1 ho1 ?_
  rcases o1 with o1 | o1
  · exact (g_inj hF).symm
  · obtain ⟨t2, rfl⟩ : ∃ z, z = o1 := ⟨_, rfl⟩
    show J Γ 3 (HS κ A t2) 0 0 55 [] []
    refine j_blk (pc' := 56) (lv' := []) (st' := [.int (Int32.ofInt 1)]) E b_c11_readsDigits_55_1 rfl ?_
    have e : res = (Int32.ofInt 1, t2) := g_inj hF
    subst e
    exact j_zret E hQ nb_1 d_c11_readsDigits_56 (fun _ h => h)
theorem b_c11_joins_0_1 : bdec cX11_joins 0 [.aload_n 0] = true := by decide +kernel
theorem d_c11_joins_1 : decode cX11_joins 1 = .ok (.getfield 9, 3) := by decide +kernel
theorem b_c11_joins_4_1 : bdec cX11_joins 4 [.iconst 0] = true := by decide +kernel
theorem d_c11_joins_5 : decode cX11_joins 5 = .ok (.iaload, 1) := by decide +kernel
theorem b_c11_joins_6_5 : bdec cX11_joins 6 [.istore_n 3, .aload_n 0, .iload_n 3, .iconst 0, .iload_n 1] = true := by decide +kernel
theorem d_c11_joins_11 : decode cX11_joins 11 = .ok (.invokevirtual 80, 3) := by decide +kernel
theorem b_c11_joins_14_4 : bdec cX11_joins 14 [.aload_n 0, .iload_n 3, .iconst 1, .iload_n 2] = true := by decide +kernel
theorem d_c11_joins_18 : decode cX11_joins 18 = .ok (.invokevirtual 80, 3) := by decide +kernel
theorem b_c11_joins_21_4 : bdec cX11_joins 21 [.aload_n 0, .iload_n 3, .iconst 2, .iconst 0] = true := by decide +kernel
theorem d_c11_joins_25 : decode cX11_joins 25 = .ok (.invokevirtual 80, 3) := by decide +kernel
theorem b_c11_joins_28_2 : bdec cX11_joins 28 [.iconst 0, .istore 4] = true := by decide +kernel
theorem b_c11_joins_31_2 : bdec cX11_joins 31 [.iload 4, .iload_n 3] = true := by decide +kernel
theorem d_c11_joins_34 : decode cX11_joins 34 = .ok (.if_icmp .ge 26, 3) := by decide +kernel
theorem b_c11_joins_37_5 : bdec cX11_joins 37 [.aload_n 0, .iload 4, .iconst 2, .aload_n 0, .iload 4] = true := by decide +kernel
theorem d_c11_joins_44 : decode cX11_joins 44 = .ok (.invokevirtual 63, 3) := by decide +kernel
theorem b_c11_joins_47_4 : bdec cX11_joins 47 [.iconst 1, .iload_n 3, .ishl, .ior] = true := by decide +kernel
theorem d_c11_joins_51 : decode cX11_joins 51 = .ok (.invokevirtual 80, 3) := by decide +kernel
theorem b_c11_joins_54_1 : bdec cX11_joins 54 [.iinc 4 1] = true := by decide +kernel
theorem d_c11_joins_57 : decode cX11_joins 57 = .ok (.goto (-26), 3) := by decide +kernel
theorem b_c11_joins_60_1 : bdec cX11_joins 60 [.aload_n 0] = true := by decide +kernel
theorem d_c11_joins_61 : decode cX11_joins 61 = .ok (.getfield 9, 3) := by decide +kernel
theorem b_c11_joins_64_1 : bdec cX11_joins 64 [.iconst 0] = true := by decide +kernel
theorem b_c11_joins_65_1 : bdec cX11_joins 65 [.dup2] = true := by decide +kernel
theorem d_c11_joins_66 : decode cX11_joins 66 = .ok (.iaload, 1) := by decide +kernel
theorem b_c11_joins_67_2 : bdec cX11_joins 67 [.iconst 1, .iadd] = true := by decide +kernel
theorem d_c11_joins_69 : decode cX11_joins 69 = .ok (.iastore, 1) := by decide +kernel
theorem d_c11_joins_70 : decode cX11_joins 70 = .ok (.return_, 1) := by decide +kernel
def f11_joins_L31 (a0 : Nat) (v3 : Int32) (w : Int32 × HM) : Option ((Int32 × HM) ⊕ (HM)) := match w with
  | (x31_4, s31) => if v3 ≤ x31_4 then (some (.inr s31)) else (ocl s31 a0 11 (obd (f11_beaten s31 a0 x31_4) (fun v13 => ocl s31 a0 11 (obd (f11_puts s31 a0 x31_4 (Int32.ofInt 2) (v13 ||| ((Int32.ofInt 1) <<< (v3 &&& 31)))) (fun s15 => some (.inl (x31_4 + Int32.ofInt 1, s15)))))))
def f11_joins (s0 : HM) (a0 : Nat) (p1 : Int32) (p2 : Int32) : Option (HM) := obd (hfld s0 [11] 0 a0) (fun v1 => orf v1 (fun b2 => obd (hald s0 b2 (Int32.ofInt 0)) (fun v3 => ocl s0 a0 11 (obd (f11_puts s0 a0 v3 (Int32.ofInt 0) p1) (fun s5 => ocl s5 a0 11 (obd (f11_puts s5 a0 v3 (Int32.ofInt 1) p2) (fun s7 => ocl s7 a0 11 (obd (f11_puts s7 a0 v3 (Int32.ofInt 2) (Int32.ofInt 0)) (fun s9 => obd (iter (f11_joins_L31 a0 v3) FU (Int32.ofInt 0, s9)) (fun o10 => match o10 with | t31 => obd (hfld t31 [11] 0 a0) (fun v16 => orf v16 (fun b17 => obd (hald t31 b17 (Int32.ofInt 0)) (fun v18 => obd (hast t31 b17 (Int32.ofInt 0) (v18 + (Int32.ofInt 1))) (fun s19 => some s19))))))))))))))
set_option maxRecDepth 100000 in
set_option maxHeartbeats 4000000 in
theorem c11_joins (l : Launch) (κ : KP) (A : Nat → Prop) (s0 : HM) (a0 : Nat) (p1 : Int32) (p2 : Int32) {res : HM} (hF : f11_joins s0 a0 p1 p2 = some res) : Met l yX11_joins (Cond.code yX11_joins cX11_joins 5 none :: WT) (rmL 1 0 0) (PP κ A [.ref a0, .int p1, .int p2] (HS κ A s0)) (QQ none (HS κ A res) A) 0 0 A := by
  refine met_of (own := RX11) (by decide) rfl (Nat.le_of_ble_eq_true rfl) ?_
  intro Γ E hQ hL hR hA hent hini
  have hAA : ∀ q, A q → jA Γ q := fun q h => by rw [hA]; exact h
  have hroom : ∀ (d mL : Nat) {mc ms : Nat}, d < 1 → mL ≤ 21 → (rmL d mc ms).frames + 1 ≤ (jR Γ).frames ∧ 8 + (mL + 11) + (rmL d mc ms).locals ≤ (jR Γ).locals := fun d mL mc ms h1 h2 => by rw [hR]; exact rmL_le h1 h2
  show J Γ 5 (HS κ A s0) 0 0 0 [(0, .ref a0), (1, .int p1), (2, .int p2)] []
  unfold f11_joins at hF
  refine j_blk (pc' := 1) (lv' := [(0, .ref a0), (1, .int p1), (2, .int p2)]) (st' := [.ref a0]) E b_c11_joins_0_1 rfl ?_
  replace hF := obd_at hF
  obtain ⟨v1, ev1, hF⟩ := hF
  refine j_getf E fg_RX11_9 d_c11_joins_1 ev1 ?_
  refine j_blk (pc' := 5) (lv' := [(0, .ref a0), (1, .int p1), (2, .int p2)]) (st' := [.int (Int32.ofInt 0), v1]) E b_c11_joins_4_1 rfl ?_
  replace hF := orf_at hF
  obtain ⟨b2, rfl, hF⟩ := hF
  replace hF := obd_at hF
  obtain ⟨v3, ev3, hF⟩ := hF
  refine j_iald E d_c11_joins_5 ev3 ?_
  refine j_blk (pc' := 11) (lv' := [(3, .int v3), (0, .ref a0), (1, .int p1), (2, .int p2)]) (st' := [.int p1, .int (Int32.ofInt 0), .int v3, .ref a0]) E b_c11_joins_6_5 rfl ?_
  replace hF := ocl_at hF
  obtain ⟨hc, hF⟩ := hF
  replace hF := obd_at hF
  obtain ⟨s5, he4, hF⟩ := hF
  refine j_callv [.int v3, .int (Int32.ofInt 0), .int p1] [] E w_RX11_80 (hroom 0 4 (by decide) (by decide)) hAA (c11_puts _ κ A _ _ _ _ _  he4) (fun _ h => h) (fun _ _ _ h _ _ => h) (fun _ h => j_recv E h hc rfl) rfl rfl (Nat.le_of_ble_eq_true rfl) d_c11_joins_11 ⟨Nat.zero_le _, Nat.zero_le _⟩ ?_
  refine j_blk (pc' := 18) (lv' := [(3, .int v3), (0, .ref a0), (1, .int p1), (2, .int p2)]) (st' := [.int p2, .int (Int32.ofInt 1), .int v3, .ref a0]) E b_c11_joins_14_4 rfl ?_
  replace hF := ocl_at hF
  obtain ⟨hc, hF⟩ := hF
  replace hF := obd_at hF
  obtain ⟨s7, he6, hF⟩ := hF
  refine j_callv [.int v3, .int (Int32.ofInt 1), .int p2] [] E w_RX11_80 (hroom 0 4 (by decide) (by decide)) hAA (c11_puts _ κ A _ _ _ _ _  he6) (fun _ h => h) (fun _ _ _ h _ _ => h) (fun _ h => j_recv E h hc rfl) rfl rfl (Nat.le_of_ble_eq_true rfl) d_c11_joins_18 ⟨Nat.zero_le _, Nat.zero_le _⟩ ?_
  refine j_blk (pc' := 25) (lv' := [(3, .int v3), (0, .ref a0), (1, .int p1), (2, .int p2)]) (st' := [.int (Int32.ofInt 0), .int (Int32.ofInt 2), .int v3, .ref a0]) E b_c11_joins_21_4 rfl ?_
  replace hF := ocl_at hF
  obtain ⟨hc, hF⟩ := hF
  replace hF := obd_at hF
  obtain ⟨s9, he8, hF⟩ := hF
  refine j_callv [.int v3, .int (Int32.ofInt 2), .int (Int32.ofInt 0)] [] E w_RX11_80 (hroom 0 4 (by decide) (by decide)) hAA (c11_puts _ κ A _ _ _ _ _  he8) (fun _ h => h) (fun _ _ _ h _ _ => h) (fun _ h => j_recv E h hc rfl) rfl rfl (Nat.le_of_ble_eq_true rfl) d_c11_joins_25 ⟨Nat.zero_le _, Nat.zero_le _⟩ ?_
  refine j_blk (pc' := 31) (lv' := [(4, .int (Int32.ofInt 0)), (3, .int v3), (0, .ref a0), (1, .int p1), (2, .int p2)]) (st' := []) E b_c11_joins_28_2 rfl ?_
  refine j_lv [2, 1, 0] rfl ?_
  replace hF := obd_at hF
  obtain ⟨o10, ho10, hF⟩ := hF
  have lpo10 : ∀ (fu : Nat) (w : Int32 × HM) (o : HM), iter (f11_joins_L31 a0 v3) fu w = some o → (fun (o : HM) => J Γ 5 (HS κ A o) 0 0 60 [(0, .ref a0)] []) o → (fun (w : Int32 × HM) => J Γ 5 (HS κ A w.2) 0 0 31 [(0, .ref a0), (3, .int v3), (4, .int w.1)] []) w := by
    refine j_iter (P := fun (w : Int32 × HM) => J Γ 5 (HS κ A w.2) 0 0 31 [(0, .ref a0), (3, .int v3), (4, .int w.1)] []) (G := fun (o : HM) => J Γ 5 (HS κ A o) 0 0 60 [(0, .ref a0)] []) ?_
    rintro ⟨x31_4, s31⟩ q hF hI hO
    show J Γ 5 (HS κ A s31) 0 0 31 [(0, .ref a0), (3, .int v3), (4, .int x31_4)] []
    unfold f11_joins_L31 at hF
    refine j_blk (pc' := 34) (lv' := [(0, .ref a0), (3, .int v3), (4, .int x31_4)]) (st' := [.int v3, .int x31_4]) E b_c11_joins_31_2 rfl ?_
    refine j_icmp_ge (tgt := 60) E d_c11_joins_34 (by decide) (fun h11 => ?_) (fun h11 => ?_)
    · replace hF := g_t hF h11
      refine j_lv [0] rfl ?_
      exact hO _ (g_inj hF)
    · replace hF := g_f hF h11
      refine j_blk (pc' := 44) (lv' := [(0, .ref a0), (3, .int v3), (4, .int x31_4)]) (st' := [.int x31_4, .ref a0, .int (Int32.ofInt 2), .int x31_4, .ref a0]) E b_c11_joins_37_5 rfl ?_
      replace hF := ocl_at hF
      obtain ⟨hc, hF⟩ := hF
      replace hF := obd_at hF
      obtain ⟨v13, he12, hF⟩ := hF
      refine j_callv [.int x31_4] [.int (Int32.ofInt 2), .int x31_4, .ref a0] E w_RX11_63 (hroom 0 2 (by decide) (by decide)) hAA (c11_beaten _ κ A _ _ _  he12) (fun _ h => h) (fun _ _ _ h _ _ => h) (fun _ h => j_recv E h hc rfl) rfl rfl (Nat.le_of_ble_eq_true rfl) d_c11_joins_44 ⟨Nat.zero_le _, Nat.zero_le _⟩ ?_
      refine j_blk (pc' := 51) (lv' := [(0, .ref a0), (3, .int v3), (4, .int x31_4)]) (st' := [.int (v13 ||| ((Int32.ofInt 1) <<< (v3 &&& 31))), .int (Int32.ofInt 2), .int x31_4, .ref a0]) E b_c11_joins_47_4 rfl ?_
      replace hF := ocl_at hF
      obtain ⟨hc, hF⟩ := hF
      replace hF := obd_at hF
      obtain ⟨s15, he14, hF⟩ := hF
      refine j_callv [.int x31_4, .int (Int32.ofInt 2), .int (v13 ||| ((Int32.ofInt 1) <<< (v3 &&& 31)))] [] E w_RX11_80 (hroom 0 4 (by decide) (by decide)) hAA (c11_puts _ κ A _ _ _ _ _  he14) (fun _ h => h) (fun _ _ _ h _ _ => h) (fun _ h => j_recv E h hc rfl) rfl rfl (Nat.le_of_ble_eq_true rfl) d_c11_joins_51 ⟨Nat.zero_le _, Nat.zero_le _⟩ ?_
      refine j_blk (pc' := 57) (lv' := [(4, .int (x31_4 + Int32.ofInt 1)), (0, .ref a0), (3, .int v3)]) (st' := []) E b_c11_joins_54_1 rfl ?_
      refine j_goto (tgt := 31) E d_c11_joins_57 (by decide) ?_
      refine j_lv [1, 2, 0] rfl ?_
      exact hI _ (g_inj hF)
  refine lpo10 FU (Int32.ofInt 0, s9) o10 ho10 ?_
  obtain ⟨t31, rfl⟩ : ∃ z, z = o10 := ⟨_, rfl⟩
  show J Γ 5 (HS κ A t31) 0 0 60 [(0, .ref a0)] []
  refine j_blk (pc' := 61) (lv' := [(0, .ref a0)]) (st' := [.ref a0]) E b_c11_joins_60_1 rfl ?_
  replace hF := obd_at hF
  obtain ⟨v16, ev16, hF⟩ := hF
  refine j_getf E fg_RX11_9 d_c11_joins_61 ev16 ?_
  refine j_blk (pc' := 65) (lv' := [(0, .ref a0)]) (st' := [.int (Int32.ofInt 0), v16]) E b_c11_joins_64_1 rfl ?_
  replace hF := orf_at hF
  obtain ⟨b17, rfl, hF⟩ := hF
  refine j_blk (pc' := 66) (lv' := [(0, .ref a0)]) (st' := [.int (Int32.ofInt 0), .ref b17, .int (Int32.ofInt 0), .ref b17]) E b_c11_joins_65_1 rfl ?_
  replace hF := obd_at hF
  obtain ⟨v18, ev18, hF⟩ := hF
  refine j_iald E d_c11_joins_66 ev18 ?_
  refine j_blk (pc' := 69) (lv' := [(0, .ref a0)]) (st' := [.int (v18 + (Int32.ofInt 1)), .int (Int32.ofInt 0), .ref b17]) E b_c11_joins_67_2 rfl ?_
  replace hF := obd_at hF
  obtain ⟨s19, es19, hF⟩ := hF
  refine j_iast E d_c11_joins_69 es19 hAA ?_
  have e : res = s19 := g_inj hF
  subst e
  exact j_vret E hQ d_c11_joins_70 (fun _ h => h)
theorem b_c11_leaves_0_8 : bdec cX11_leaves 0 [.iconst 1, .iload_n 1, .ishl, .iconst 1, .isub, .istore_n 2, .iconst 0, .istore_n 3] = true := by decide +kernel
theorem b_c11_leaves_8_2 : bdec cX11_leaves 8 [.iload_n 3, .aload_n 0] = true := by decide +kernel
theorem d_c11_leaves_10 : decode cX11_leaves 10 = .ok (.getfield 9, 3) := by decide +kernel
theorem b_c11_leaves_13_1 : bdec cX11_leaves 13 [.iconst 0] = true := by decide +kernel
theorem d_c11_leaves_14 : decode cX11_leaves 14 = .ok (.iaload, 1) := by decide +kernel
theorem d_c11_leaves_15 : decode cX11_leaves 15 = .ok (.if_icmp .ge 34, 3) := by decide +kernel
theorem b_c11_leaves_18_5 : bdec cX11_leaves 18 [.aload_n 0, .iload_n 3, .iconst 2, .aload_n 0, .iload_n 3] = true := by decide +kernel
theorem d_c11_leaves_23 : decode cX11_leaves 23 = .ok (.invokevirtual 63, 3) := by decide +kernel
theorem b_c11_leaves_26_4 : bdec cX11_leaves 26 [.iload_n 2, .iand, .aload_n 0, .iload_n 3] = true := by decide +kernel
theorem d_c11_leaves_30 : decode cX11_leaves 30 = .ok (.invokevirtual 63, 3) := by decide +kernel
theorem b_c11_leaves_33_7 : bdec cX11_leaves 33 [.iconst 1, .ishr, .iload_n 2, .iconst (-1), .ixor, .iand, .ior] = true := by decide +kernel
theorem d_c11_leaves_40 : decode cX11_leaves 40 = .ok (.invokevirtual 80, 3) := by decide +kernel
theorem b_c11_leaves_43_1 : bdec cX11_leaves 43 [.iinc 3 1] = true := by decide +kernel
theorem d_c11_leaves_46 : decode cX11_leaves 46 = .ok (.goto (-38), 3) := by decide +kernel
theorem b_c11_leaves_49_6 : bdec cX11_leaves 49 [.iconst 2, .iconst 3, .iload_n 1, .imul, .iadd, .istore_n 3] = true := by decide +kernel
theorem b_c11_leaves_55_4 : bdec cX11_leaves 55 [.iload_n 3, .iconst 2, .iconst 3, .aload_n 0] = true := by decide +kernel
theorem d_c11_leaves_59 : decode cX11_leaves 59 = .ok (.getfield 9, 3) := by decide +kernel
theorem b_c11_leaves_62_1 : bdec cX11_leaves 62 [.iconst 0] = true := by decide +kernel
theorem d_c11_leaves_63 : decode cX11_leaves 63 = .ok (.iaload, 1) := by decide +kernel
theorem b_c11_leaves_64_4 : bdec cX11_leaves 64 [.iconst 1, .isub, .imul, .iadd] = true := by decide +kernel
theorem d_c11_leaves_68 : decode cX11_leaves 68 = .ok (.if_icmp .ge 23, 3) := by decide +kernel
theorem b_c11_leaves_71_1 : bdec cX11_leaves 71 [.aload_n 0] = true := by decide +kernel
theorem d_c11_leaves_72 : decode cX11_leaves 72 = .ok (.getfield 9, 3) := by decide +kernel
theorem b_c11_leaves_75_2 : bdec cX11_leaves 75 [.iload_n 3, .aload_n 0] = true := by decide +kernel
theorem d_c11_leaves_77 : decode cX11_leaves 77 = .ok (.getfield 9, 3) := by decide +kernel
theorem b_c11_leaves_80_3 : bdec cX11_leaves 80 [.iload_n 3, .iconst 3, .iadd] = true := by decide +kernel
theorem d_c11_leaves_83 : decode cX11_leaves 83 = .ok (.iaload, 1) := by decide +kernel
theorem d_c11_leaves_84 : decode cX11_leaves 84 = .ok (.iastore, 1) := by decide +kernel
theorem b_c11_leaves_85_1 : bdec cX11_leaves 85 [.iinc 3 1] = true := by decide +kernel
theorem d_c11_leaves_88 : decode cX11_leaves 88 = .ok (.goto (-33), 3) := by decide +kernel
theorem b_c11_leaves_91_1 : bdec cX11_leaves 91 [.aload_n 0] = true := by decide +kernel
theorem d_c11_leaves_92 : decode cX11_leaves 92 = .ok (.getfield 9, 3) := by decide +kernel
theorem b_c11_leaves_95_1 : bdec cX11_leaves 95 [.iconst 0] = true := by decide +kernel
theorem b_c11_leaves_96_1 : bdec cX11_leaves 96 [.dup2] = true := by decide +kernel
theorem d_c11_leaves_97 : decode cX11_leaves 97 = .ok (.iaload, 1) := by decide +kernel
theorem b_c11_leaves_98_2 : bdec cX11_leaves 98 [.iconst 1, .isub] = true := by decide +kernel
theorem d_c11_leaves_100 : decode cX11_leaves 100 = .ok (.iastore, 1) := by decide +kernel
theorem d_c11_leaves_101 : decode cX11_leaves 101 = .ok (.return_, 1) := by decide +kernel
def f11_leaves_L8 (a0 : Nat) (p1 : Int32) (c8_2 : Int32) (w : Int32 × HM) : Option ((Int32 × HM) ⊕ (HM)) := match w with
  | (x8_3, s8) => obd (hfld s8 [11] 0 a0) (fun v2 => orf v2 (fun b3 => obd (hald s8 b3 (Int32.ofInt 0)) (fun v4 => if v4 ≤ x8_3 then (some (.inr s8)) else (ocl s8 a0 11 (obd (f11_beaten s8 a0 x8_3) (fun v7 => ocl s8 a0 11 (obd (f11_beaten s8 a0 x8_3) (fun v9 => ocl s8 a0 11 (obd (f11_puts s8 a0 x8_3 (Int32.ofInt 2) ((v7 &&& c8_2) ||| ((v9 >>> ((Int32.ofInt 1) &&& 31)) &&& (c8_2 ^^^ (Int32.ofInt (-1)))))) (fun s11 => some (.inl (x8_3 + Int32.ofInt 1, s11))))))))))))
def f11_leaves_L55 (a0 : Nat) (w : Int32 × HM) : Option ((Int32 × HM) ⊕ (HM)) := match w with
  | (x55_3, s55) => obd (hfld s55 [11] 0 a0) (fun v13 => orf v13 (fun b14 => obd (hald s55 b14 (Int32.ofInt 0)) (fun v15 => if ((Int32.ofInt 2) + ((Int32.ofInt 3) * (v15 - (Int32.ofInt 1)))) ≤ x55_3 then (some (.inr s55)) else (obd (hfld s55 [11] 0 a0) (fun v17 => obd (hfld s55 [11] 0 a0) (fun v18 => orf v18 (fun b19 => obd (hald s55 b19 (x55_3 + (Int32.ofInt 3))) (fun v20 => orf v17 (fun b21 => obd (hast s55 b21 x55_3 v20) (fun s22 => some (.inl (x55_3 + Int32.ofInt 1, s22))))))))))))
def f11_leaves (s0 : HM) (a0 : Nat) (p1 : Int32) : Option (HM) := obd (iter (f11_leaves_L8 a0 p1 (((Int32.ofInt 1) <<< (p1 &&& 31)) - (Int32.ofInt 1))) FU (Int32.ofInt 0, s0)) (fun o1 => match o1 with | t8 => obd (iter (f11_leaves_L55 a0) FU ((Int32.ofInt 2) + ((Int32.ofInt 3) * p1), t8)) (fun o12 => match o12 with | t55 => obd (hfld t55 [11] 0 a0) (fun v23 => orf v23 (fun b24 => obd (hald t55 b24 (Int32.ofInt 0)) (fun v25 => obd (hast t55 b24 (Int32.ofInt 0) (v25 - (Int32.ofInt 1))) (fun s26 => some s26))))))
set_option maxRecDepth 100000 in
set_option maxHeartbeats 4000000 in
theorem c11_leaves (l : Launch) (κ : KP) (A : Nat → Prop) (s0 : HM) (a0 : Nat) (p1 : Int32) {res : HM} (hF : f11_leaves s0 a0 p1 = some res) : Met l yX11_leaves (Cond.code yX11_leaves cX11_leaves 4 none :: WT) (rmL 1 0 0) (PP κ A [.ref a0, .int p1] (HS κ A s0)) (QQ none (HS κ A res) A) 0 0 A := by
  refine met_of (own := RX11) (by decide) rfl (Nat.le_of_ble_eq_true rfl) ?_
  intro Γ E hQ hL hR hA hent hini
  have hAA : ∀ q, A q → jA Γ q := fun q h => by rw [hA]; exact h
  have hroom : ∀ (d mL : Nat) {mc ms : Nat}, d < 1 → mL ≤ 21 → (rmL d mc ms).frames + 1 ≤ (jR Γ).frames ∧ 8 + (mL + 11) + (rmL d mc ms).locals ≤ (jR Γ).locals := fun d mL mc ms h1 h2 => by rw [hR]; exact rmL_le h1 h2
  show J Γ 4 (HS κ A s0) 0 0 0 [(0, .ref a0), (1, .int p1)] []
  unfold f11_leaves at hF
  refine j_blk (pc' := 8) (lv' := [(3, .int (Int32.ofInt 0)), (2, .int (((Int32.ofInt 1) <<< (p1 &&& 31)) - (Int32.ofInt 1))), (0, .ref a0), (1, .int p1)]) (st' := []) E b_c11_leaves_0_8 rfl ?_
  refine j_lv [2, 3, 1, 0] rfl ?_
  replace hF := obd_at hF
  obtain ⟨o1, ho1, hF⟩ := hF
  have lpo1 : ∀ (c8_2 : Int32), ∀ (fu : Nat) (w : Int32 × HM) (o : HM), iter (f11_leaves_L8 a0 p1 c8_2) fu w = some o → (fun (o : HM) => J Γ 4 (HS κ A o) 0 0 49 [(0, .ref a0), (1, .int p1)] []) o → (fun (w : Int32 × HM) => J Γ 4 (HS κ A w.2) 0 0 8 [(0, .ref a0), (1, .int p1), (2, .int c8_2), (3, .int w.1)] []) w := by
    intro c8_2
    refine j_iter (P := fun (w : Int32 × HM) => J Γ 4 (HS κ A w.2) 0 0 8 [(0, .ref a0), (1, .int p1), (2, .int c8_2), (3, .int w.1)] []) (G := fun (o : HM) => J Γ 4 (HS κ A o) 0 0 49 [(0, .ref a0), (1, .int p1)] []) ?_
    rintro ⟨x8_3, s8⟩ q hF hI hO
    show J Γ 4 (HS κ A s8) 0 0 8 [(0, .ref a0), (1, .int p1), (2, .int c8_2), (3, .int x8_3)] []
    unfold f11_leaves_L8 at hF
    refine j_blk (pc' := 10) (lv' := [(0, .ref a0), (1, .int p1), (2, .int c8_2), (3, .int x8_3)]) (st' := [.ref a0, .int x8_3]) E b_c11_leaves_8_2 rfl ?_
    replace hF := obd_at hF
    obtain ⟨v2, ev2, hF⟩ := hF
    refine j_getf E fg_RX11_9 d_c11_leaves_10 ev2 ?_
    refine j_blk (pc' := 14) (lv' := [(0, .ref a0), (1, .int p1), (2, .int c8_2), (3, .int x8_3)]) (st' := [.int (Int32.ofInt 0), v2, .int x8_3]) E b_c11_leaves_13_1 rfl ?_
    replace hF := orf_at hF
    obtain ⟨b3, rfl, hF⟩ := hF
    replace hF := obd_at hF
    obtain ⟨v4, ev4, hF⟩ := hF
    refine j_iald E d_c11_leaves_14 ev4 ?_
    refine j_icmp_ge (tgt := 49) E d_c11_leaves_15 (by decide) (fun h5 => ?_) (fun h5 => ?_)
    · replace hF := g_t hF h5
      refine j_lv [0, 1] rfl ?_
      exact hO _ (g_inj hF)
    · replace hF := g_f hF h5
      refine j_blk (pc' := 23) (lv' := [(0, .ref a0), (1, .int p1), (2, .int c8_2), (3, .int x8_3)]) (st' := [.int x8_3, .ref a0, .int (Int32.ofInt 2), .int x8_3, .ref a0]) E b_c11_leaves_18_5 rfl ?_
      replace hF := ocl_at hF
      obtain ⟨hc, hF⟩ := hF
      replace hF := obd_at hF
      obtain ⟨v7, he6, hF⟩ := hF
      refine j_callv [.int x8_3] [.int (Int32.ofInt 2), .int x8_3, .ref a0] E w_RX11_63 (hroom 0 2 (by decide) (by decide)) hAA (c11_beaten _ κ A _ _ _  he6) (fun _ h => h) (fun _ _ _ h _ _ => h) (fun _ h => j_recv E h hc rfl) rfl rfl (Nat.le_of_ble_eq_true rfl) d_c11_leaves_23 ⟨Nat.zero_le _, Nat.zero_le _⟩ ?_
      refine j_blk (pc' := 30) (lv' := [(0, .ref a0), (1, .int p1), (2, .int c8_2), (3, .int x8_3)]) (st' := [.int x8_3, .ref a0, .int (v7 &&& c8_2), .int (Int32.ofInt 2), .int x8_3, .ref a0]) E b_c11_leaves_26_4 rfl ?_
      replace hF := ocl_at hF
      obtain ⟨hc, hF⟩ := hF
      replace hF := obd_at hF
      obtain ⟨v9, he8, hF⟩ := hF
      refine j_callv [.int x8_3] [.int (v7 &&& c8_2), .int (Int32.ofInt 2), .int x8_3, .ref a0] E w_RX11_63 (hroom 0 2 (by decide) (by decide)) hAA (c11_beaten _ κ A _ _ _  he8) (fun _ h => h) (fun _ _ _ h _ _ => h) (fun _ h => j_recv E h hc rfl) rfl rfl (Nat.le_of_ble_eq_true rfl) d_c11_leaves_30 ⟨Nat.zero_le _, Nat.zero_le _⟩ ?_
      refine j_blk (pc' := 40) (lv' := [(0, .ref a0), (1, .int p1), (2, .int c8_2), (3, .int x8_3)]) (st' := [.int ((v7 &&& c8_2) ||| ((v9 >>> ((Int32.ofInt 1) &&& 31)) &&& (c8_2 ^^^ (Int32.ofInt (-1))))), .int (Int32.ofInt 2), .int x8_3, .ref a0]) E b_c11_leaves_33_7 rfl ?_
      replace hF := ocl_at hF
      obtain ⟨hc, hF⟩ := hF
      replace hF := obd_at hF
      obtain ⟨s11, he10, hF⟩ := hF
      refine j_callv [.int x8_3, .int (Int32.ofInt 2), .int ((v7 &&& c8_2) ||| ((v9 >>> ((Int32.ofInt 1) &&& 31)) &&& (c8_2 ^^^ (Int32.ofInt (-1)))))] [] E w_RX11_80 (hroom 0 4 (by decide) (by decide)) hAA (c11_puts _ κ A _ _ _ _ _  he10) (fun _ h => h) (fun _ _ _ h _ _ => h) (fun _ h => j_recv E h hc rfl) rfl rfl (Nat.le_of_ble_eq_true rfl) d_c11_leaves_40 ⟨Nat.zero_le _, Nat.zero_le _⟩ ?_
      refine j_blk (pc' := 46) (lv' := [(3, .int (x8_3 + Int32.ofInt 1)), (0, .ref a0), (1, .int p1), (2, .int c8_2)]) (st' := []) E b_c11_leaves_43_1 rfl ?_
      refine j_goto (tgt := 8) E d_c11_leaves_46 (by decide) ?_
      refine j_lv [1, 2, 3, 0] rfl ?_
      exact hI _ (g_inj hF)
  refine lpo1 (((Int32.ofInt 1) <<< (p1 &&& 31)) - (Int32.ofInt 1)) FU (Int32.ofInt 0, s0) o1 ho1 ?_
  obtain ⟨t8, rfl⟩ : ∃ z, z = o1 := ⟨_, rfl⟩
  show J Γ 4 (HS κ A t8) 0 0 49 [(0, .ref a0), (1, .int p1)] []
  refine j_blk (pc' := 55) (lv' := [(3, .int ((Int32.ofInt 2) + ((Int32.ofInt 3) * p1))), (0, .ref a0), (1, .int p1)]) (st' := []) E b_c11_leaves_49_6 rfl ?_
  refine j_lv [1, 0] rfl ?_
  replace hF := obd_at hF
  obtain ⟨o12, ho12, hF⟩ := hF
  have lpo12 : ∀ (fu : Nat) (w : Int32 × HM) (o : HM), iter (f11_leaves_L55 a0) fu w = some o → (fun (o : HM) => J Γ 4 (HS κ A o) 0 0 91 [(0, .ref a0)] []) o → (fun (w : Int32 × HM) => J Γ 4 (HS κ A w.2) 0 0 55 [(0, .ref a0), (3, .int w.1)] []) w := by
    refine j_iter (P := fun (w : Int32 × HM) => J Γ 4 (HS κ A w.2) 0 0 55 [(0, .ref a0), (3, .int w.1)] []) (G := fun (o : HM) => J Γ 4 (HS κ A o) 0 0 91 [(0, .ref a0)] []) ?_
    rintro ⟨x55_3, s55⟩ q hF hI hO
    show J Γ 4 (HS κ A s55) 0 0 55 [(0, .ref a0), (3, .int x55_3)] []
    unfold f11_leaves_L55 at hF
    refine j_blk (pc' := 59) (lv' := [(0, .ref a0), (3, .int x55_3)]) (st' := [.ref a0, .int (Int32.ofInt 3), .int (Int32.ofInt 2), .int x55_3]) E b_c11_leaves_55_4 rfl ?_
    replace hF := obd_at hF
    obtain ⟨v13, ev13, hF⟩ := hF
    refine j_getf E fg_RX11_9 d_c11_leaves_59 ev13 ?_
    refine j_blk (pc' := 63) (lv' := [(0, .ref a0), (3, .int x55_3)]) (st' := [.int (Int32.ofInt 0), v13, .int (Int32.ofInt 3), .int (Int32.ofInt 2), .int x55_3]) E b_c11_leaves_62_1 rfl ?_
    replace hF := orf_at hF
    obtain ⟨b14, rfl, hF⟩ := hF
    replace hF := obd_at hF
    obtain ⟨v15, ev15, hF⟩ := hF
    refine j_iald E d_c11_leaves_63 ev15 ?_
    refine j_blk (pc' := 68) (lv' := [(0, .ref a0), (3, .int x55_3)]) (st' := [.int ((Int32.ofInt 2) + ((Int32.ofInt 3) * (v15 - (Int32.ofInt 1)))), .int x55_3]) E b_c11_leaves_64_4 rfl ?_
    refine j_icmp_ge (tgt := 91) E d_c11_leaves_68 (by decide) (fun h16 => ?_) (fun h16 => ?_)
    · replace hF := g_t hF h16
      refine j_lv [0] rfl ?_
      exact hO _ (g_inj hF)
    · replace hF := g_f hF h16
      refine j_blk (pc' := 72) (lv' := [(0, .ref a0), (3, .int x55_3)]) (st' := [.ref a0]) E b_c11_leaves_71_1 rfl ?_
      replace hF := obd_at hF
      obtain ⟨v17, ev17, hF⟩ := hF
      refine j_getf E fg_RX11_9 d_c11_leaves_72 ev17 ?_
      refine j_blk (pc' := 77) (lv' := [(0, .ref a0), (3, .int x55_3)]) (st' := [.ref a0, .int x55_3, v17]) E b_c11_leaves_75_2 rfl ?_
      replace hF := obd_at hF
      obtain ⟨v18, ev18, hF⟩ := hF
      refine j_getf E fg_RX11_9 d_c11_leaves_77 ev18 ?_
      refine j_blk (pc' := 83) (lv' := [(0, .ref a0), (3, .int x55_3)]) (st' := [.int (x55_3 + (Int32.ofInt 3)), v18, .int x55_3, v17]) E b_c11_leaves_80_3 rfl ?_
      replace hF := orf_at hF
      obtain ⟨b19, rfl, hF⟩ := hF
      replace hF := obd_at hF
      obtain ⟨v20, ev20, hF⟩ := hF
      refine j_iald E d_c11_leaves_83 ev20 ?_
      replace hF := orf_at hF
      obtain ⟨b21, rfl, hF⟩ := hF
      replace hF := obd_at hF
      obtain ⟨s22, es22, hF⟩ := hF
      refine j_iast E d_c11_leaves_84 es22 hAA ?_
      refine j_blk (pc' := 88) (lv' := [(3, .int (x55_3 + Int32.ofInt 1)), (0, .ref a0)]) (st' := []) E b_c11_leaves_85_1 rfl ?_
      refine j_goto (tgt := 55) E d_c11_leaves_88 (by decide) ?_
      refine j_lv [1, 0] rfl ?_
      exact hI _ (g_inj hF)
  refine lpo12 FU ((Int32.ofInt 2) + ((Int32.ofInt 3) * p1), t8) o12 ho12 ?_
  obtain ⟨t55, rfl⟩ : ∃ z, z = o12 := ⟨_, rfl⟩
  show J Γ 4 (HS κ A t55) 0 0 91 [(0, .ref a0)] []
  refine j_blk (pc' := 92) (lv' := [(0, .ref a0)]) (st' := [.ref a0]) E b_c11_leaves_91_1 rfl ?_
  replace hF := obd_at hF
  obtain ⟨v23, ev23, hF⟩ := hF
  refine j_getf E fg_RX11_9 d_c11_leaves_92 ev23 ?_
  refine j_blk (pc' := 96) (lv' := [(0, .ref a0)]) (st' := [.int (Int32.ofInt 0), v23]) E b_c11_leaves_95_1 rfl ?_
  replace hF := orf_at hF
  obtain ⟨b24, rfl, hF⟩ := hF
  refine j_blk (pc' := 97) (lv' := [(0, .ref a0)]) (st' := [.int (Int32.ofInt 0), .ref b24, .int (Int32.ofInt 0), .ref b24]) E b_c11_leaves_96_1 rfl ?_
  replace hF := obd_at hF
  obtain ⟨v25, ev25, hF⟩ := hF
  refine j_iald E d_c11_leaves_97 ev25 ?_
  refine j_blk (pc' := 100) (lv' := [(0, .ref a0)]) (st' := [.int (v25 - (Int32.ofInt 1)), .int (Int32.ofInt 0), .ref b24]) E b_c11_leaves_98_2 rfl ?_
  replace hF := obd_at hF
  obtain ⟨s26, es26, hF⟩ := hF
  refine j_iast E d_c11_leaves_100 es26 hAA ?_
  have e : res = s26 := g_inj hF
  subst e
  exact j_vret E hQ d_c11_leaves_101 (fun _ h => h)
theorem b_c11_rings_0_4 : bdec cX11_rings 0 [.iconst 0, .istore_n 1, .iconst 0, .istore_n 2] = true := by decide +kernel
theorem b_c11_rings_4_2 : bdec cX11_rings 4 [.iload_n 2, .aload_n 0] = true := by decide +kernel
theorem d_c11_rings_6 : decode cX11_rings 6 = .ok (.getfield 9, 3) := by decide +kernel
theorem b_c11_rings_9_1 : bdec cX11_rings 9 [.iconst 0] = true := by decide +kernel
theorem d_c11_rings_10 : decode cX11_rings 10 = .ok (.iaload, 1) := by decide +kernel
theorem d_c11_rings_11 : decode cX11_rings 11 = .ok (.if_icmp .ge 105, 3) := by decide +kernel
theorem b_c11_rings_14_2 : bdec cX11_rings 14 [.iconst 0, .istore_n 3] = true := by decide +kernel
theorem b_c11_rings_16_2 : bdec cX11_rings 16 [.iload_n 3, .iload_n 2] = true := by decide +kernel
theorem d_c11_rings_18 : decode cX11_rings 18 = .ok (.if_icmp .ge 92, 3) := by decide +kernel
theorem b_c11_rings_21_2 : bdec cX11_rings 21 [.iconst 0, .istore 4] = true := by decide +kernel
theorem b_c11_rings_24_2 : bdec cX11_rings 24 [.iload 4, .iload_n 3] = true := by decide +kernel
theorem d_c11_rings_27 : decode cX11_rings 27 = .ok (.if_icmp .ge 77, 3) := by decide +kernel
theorem b_c11_rings_30_15 : bdec cX11_rings 30 [.iconst 1, .iload_n 2, .ishl, .iconst 1, .iload_n 3, .ishl, .ior, .iconst 1, .iload 4, .ishl, .ior, .istore 5, .iload_n 1, .aload_n 0, .iload_n 2] = true := by decide +kernel
theorem d_c11_rings_47 : decode cX11_rings 47 = .ok (.invokevirtual 63, 3) := by decide +kernel
theorem b_c11_rings_50_2 : bdec cX11_rings 50 [.iload 5, .iand] = true := by decide +kernel
theorem d_c11_rings_53 : decode cX11_rings 53 = .ok (.invokestatic 67, 3) := by decide +kernel
theorem b_c11_rings_56_1 : bdec cX11_rings 56 [.iconst 1] = true := by decide +kernel
theorem d_c11_rings_57 : decode cX11_rings 57 = .ok (.if_icmp .ne 38, 3) := by decide +kernel
theorem b_c11_rings_95_4 : bdec cX11_rings 95 [.iconst 0, .iadd, .istore_n 1, .iinc 4 1] = true := by decide +kernel
theorem d_c11_rings_101 : decode cX11_rings 101 = .ok (.goto (-77), 3) := by decide +kernel
theorem b_c11_rings_60_2 : bdec cX11_rings 60 [.aload_n 0, .iload_n 3] = true := by decide +kernel
theorem d_c11_rings_62 : decode cX11_rings 62 = .ok (.invokevirtual 63, 3) := by decide +kernel
theorem b_c11_rings_65_2 : bdec cX11_rings 65 [.iload 5, .iand] = true := by decide +kernel
theorem d_c11_rings_68 : decode cX11_rings 68 = .ok (.invokestatic 67, 3) := by decide +kernel
theorem b_c11_rings_71_1 : bdec cX11_rings 71 [.iconst 1] = true := by decide +kernel
theorem d_c11_rings_72 : decode cX11_rings 72 = .ok (.if_icmp .ne 23, 3) := by decide +kernel
theorem b_c11_rings_75_2 : bdec cX11_rings 75 [.aload_n 0, .iload 4] = true := by decide +kernel
theorem d_c11_rings_78 : decode cX11_rings 78 = .ok (.invokevirtual 63, 3) := by decide +kernel
theorem b_c11_rings_81_2 : bdec cX11_rings 81 [.iload 5, .iand] = true := by decide +kernel
theorem d_c11_rings_84 : decode cX11_rings 84 = .ok (.invokestatic 67, 3) := by decide +kernel
theorem b_c11_rings_87_1 : bdec cX11_rings 87 [.iconst 1] = true := by decide +kernel
theorem d_c11_rings_88 : decode cX11_rings 88 = .ok (.if_icmp .ne 7, 3) := by decide +kernel
theorem b_c11_rings_91_1 : bdec cX11_rings 91 [.iconst 1] = true := by decide +kernel
theorem d_c11_rings_92 : decode cX11_rings 92 = .ok (.goto 4, 3) := by decide +kernel
theorem b_c11_rings_96_3 : bdec cX11_rings 96 [.iadd, .istore_n 1, .iinc 4 1] = true := by decide +kernel
theorem b_c11_rings_104_1 : bdec cX11_rings 104 [.iinc 3 1] = true := by decide +kernel
theorem d_c11_rings_107 : decode cX11_rings 107 = .ok (.goto (-91), 3) := by decide +kernel
theorem b_c11_rings_110_1 : bdec cX11_rings 110 [.iinc 2 1] = true := by decide +kernel
theorem d_c11_rings_113 : decode cX11_rings 113 = .ok (.goto (-109), 3) := by decide +kernel
theorem b_c11_rings_116_1 : bdec cX11_rings 116 [.iload_n 1] = true := by decide +kernel
theorem d_c11_rings_117 : decode cX11_rings 117 = .ok (.ireturn, 1) := by decide +kernel
def f11_rings_L24 (s0 : HM) (a0 : Nat) (x4_2 : Int32) (x16_3 : Int32) (w : Int32 × Int32) : Option ((Int32 × Int32) ⊕ (Int32)) := match w with
  | (x24_1, x24_4) => if x16_3 ≤ x24_4 then (some (.inr x24_1)) else (ocl s0 a0 11 (obd (f11_beaten s0 a0 x4_2) (fun v11 => obd (f11_bits (v11 &&& ((((Int32.ofInt 1) <<< (x4_2 &&& 31)) ||| ((Int32.ofInt 1) <<< (x16_3 &&& 31))) ||| ((Int32.ofInt 1) <<< (x24_4 &&& 31))))) (fun v13 => if v13 = (Int32.ofInt 1) then (ocl s0 a0 11 (obd (f11_beaten s0 a0 x16_3) (fun v16 => obd (f11_bits (v16 &&& ((((Int32.ofInt 1) <<< (x4_2 &&& 31)) ||| ((Int32.ofInt 1) <<< (x16_3 &&& 31))) ||| ((Int32.ofInt 1) <<< (x24_4 &&& 31))))) (fun v18 => if v18 = (Int32.ofInt 1) then (ocl s0 a0 11 (obd (f11_beaten s0 a0 x24_4) (fun v21 => obd (f11_bits (v21 &&& ((((Int32.ofInt 1) <<< (x4_2 &&& 31)) ||| ((Int32.ofInt 1) <<< (x16_3 &&& 31))) ||| ((Int32.ofInt 1) <<< (x24_4 &&& 31))))) (fun v23 => if v23 = (Int32.ofInt 1) then (some (.inl (x24_1 + (Int32.ofInt 1), x24_4 + Int32.ofInt 1))) else (some (.inl (x24_1 + (Int32.ofInt 0), x24_4 + Int32.ofInt 1))))))) else (some (.inl (x24_1 + (Int32.ofInt 0), x24_4 + Int32.ofInt 1))))))) else (some (.inl (x24_1 + (Int32.ofInt 0), x24_4 + Int32.ofInt 1)))))))
def f11_rings_L16 (s0 : HM) (a0 : Nat) (x4_2 : Int32) (w : Int32 × Int32) : Option ((Int32 × Int32) ⊕ (Int32)) := match w with
  | (x16_1, x16_3) => if x4_2 ≤ x16_3 then (some (.inr x16_1)) else (obd (iter (f11_rings_L24 s0 a0 x4_2 x16_3) FU (x16_1, Int32.ofInt 0)) (fun o8 => match o8 with | e24_1 => some (.inl (e24_1, x16_3 + Int32.ofInt 1))))
def f11_rings_L4 (s0 : HM) (a0 : Nat) (w : Int32 × Int32) : Option ((Int32 × Int32) ⊕ (Int32)) := match w with
  | (x4_1, x4_2) => obd (hfld s0 [11] 0 a0) (fun v2 => orf v2 (fun b3 => obd (hald s0 b3 (Int32.ofInt 0)) (fun v4 => if v4 ≤ x4_2 then (some (.inr x4_1)) else (obd (iter (f11_rings_L16 s0 a0 x4_2) FU (x4_1, Int32.ofInt 0)) (fun o6 => match o6 with | e16_1 => some (.inl (e16_1, x4_2 + Int32.ofInt 1)))))))
def f11_rings (s0 : HM) (a0 : Nat) : Option (Int32) := obd (iter (f11_rings_L4 s0 a0) FU (Int32.ofInt 0, Int32.ofInt 0)) (fun o1 => match o1 with | e4_1 => some e4_1)
set_option maxRecDepth 100000 in
set_option maxHeartbeats 4000000 in
theorem c11_rings (l : Launch) (κ : KP) (A : Nat → Prop) (s0 : HM) (a0 : Nat) {res : Int32} (hF : f11_rings s0 a0 = some res) : Met l yX11_rings (Cond.code yX11_rings cX11_rings 6 (some .int) :: WT) (rmL 1 0 0) (PP κ A [.ref a0] (HS κ A s0)) (QQ (some (.int res)) (HS κ A s0) A) 0 0 A := by
  refine met_of (own := RX11) (by decide) rfl (Nat.le_of_ble_eq_true rfl) ?_
  intro Γ E hQ hL hR hA hent hini
  have hAA : ∀ q, A q → jA Γ q := fun q h => by rw [hA]; exact h
  have hroom : ∀ (d mL : Nat) {mc ms : Nat}, d < 1 → mL ≤ 21 → (rmL d mc ms).frames + 1 ≤ (jR Γ).frames ∧ 8 + (mL + 11) + (rmL d mc ms).locals ≤ (jR Γ).locals := fun d mL mc ms h1 h2 => by rw [hR]; exact rmL_le h1 h2
  show J Γ 6 (HS κ A s0) 0 0 0 [(0, .ref a0)] []
  unfold f11_rings at hF
  refine j_blk (pc' := 4) (lv' := [(2, .int (Int32.ofInt 0)), (1, .int (Int32.ofInt 0)), (0, .ref a0)]) (st' := []) E b_c11_rings_0_4 rfl ?_
  refine j_lv [2, 1, 0] rfl ?_
  replace hF := obd_at hF
  obtain ⟨o1, ho1, hF⟩ := hF
  have lpo1 : ∀ (fu : Nat) (w : Int32 × Int32) (o : Int32), iter (f11_rings_L4 s0 a0) fu w = some o → (fun (o : Int32) => J Γ 6 (HS κ A s0) 0 0 116 [(1, .int o)] []) o → (fun (w : Int32 × Int32) => J Γ 6 (HS κ A s0) 0 0 4 [(0, .ref a0), (1, .int w.1), (2, .int w.2)] []) w := by
    refine j_iter (P := fun (w : Int32 × Int32) => J Γ 6 (HS κ A s0) 0 0 4 [(0, .ref a0), (1, .int w.1), (2, .int w.2)] []) (G := fun (o : Int32) => J Γ 6 (HS κ A s0) 0 0 116 [(1, .int o)] []) ?_
    rintro ⟨x4_1, x4_2⟩ q hF hI hO
    show J Γ 6 (HS κ A s0) 0 0 4 [(0, .ref a0), (1, .int x4_1), (2, .int x4_2)] []
    unfold f11_rings_L4 at hF
    refine j_blk (pc' := 6) (lv' := [(0, .ref a0), (1, .int x4_1), (2, .int x4_2)]) (st' := [.ref a0, .int x4_2]) E b_c11_rings_4_2 rfl ?_
    replace hF := obd_at hF
    obtain ⟨v2, ev2, hF⟩ := hF
    refine j_getf E fg_RX11_9 d_c11_rings_6 ev2 ?_
    refine j_blk (pc' := 10) (lv' := [(0, .ref a0), (1, .int x4_1), (2, .int x4_2)]) (st' := [.int (Int32.ofInt 0), v2, .int x4_2]) E b_c11_rings_9_1 rfl ?_
    replace hF := orf_at hF
    obtain ⟨b3, rfl, hF⟩ := hF
    replace hF := obd_at hF
    obtain ⟨v4, ev4, hF⟩ := hF
    refine j_iald E d_c11_rings_10 ev4 ?_
    refine j_icmp_ge (tgt := 116) E d_c11_rings_11 (by decide) (fun h5 => ?_) (fun h5 => ?_)
    · replace hF := g_t hF h5
      refine j_lv [1] rfl ?_
      exact hO _ (g_inj hF)
    · replace hF := g_f hF h5
      refine j_blk (pc' := 16) (lv' := [(3, .int (Int32.ofInt 0)), (0, .ref a0), (1, .int x4_1), (2, .int x4_2)]) (st' := []) E b_c11_rings_14_2 rfl ?_
      refine j_lv [1, 2, 3, 0] rfl ?_
      replace hF := obd_at hF
      obtain ⟨o6, ho6, hF⟩ := hF
      have lpo6 : ∀ (fu : Nat) (w : Int32 × Int32) (o : Int32), iter (f11_rings_L16 s0 a0 x4_2) fu w = some o → (fun (o : Int32) => J Γ 6 (HS κ A s0) 0 0 110 [(0, .ref a0), (1, .int o), (2, .int x4_2)] []) o → (fun (w : Int32 × Int32) => J Γ 6 (HS κ A s0) 0 0 16 [(0, .ref a0), (1, .int w.1), (2, .int x4_2), (3, .int w.2)] []) w := by
        refine j_iter (P := fun (w : Int32 × Int32) => J Γ 6 (HS κ A s0) 0 0 16 [(0, .ref a0), (1, .int w.1), (2, .int x4_2), (3, .int w.2)] []) (G := fun (o : Int32) => J Γ 6 (HS κ A s0) 0 0 110 [(0, .ref a0), (1, .int o), (2, .int x4_2)] []) ?_
        rintro ⟨x16_1, x16_3⟩ q hF hI hO
        show J Γ 6 (HS κ A s0) 0 0 16 [(0, .ref a0), (1, .int x16_1), (2, .int x4_2), (3, .int x16_3)] []
        unfold f11_rings_L16 at hF
        refine j_blk (pc' := 18) (lv' := [(0, .ref a0), (1, .int x16_1), (2, .int x4_2), (3, .int x16_3)]) (st' := [.int x4_2, .int x16_3]) E b_c11_rings_16_2 rfl ?_
        refine j_icmp_ge (tgt := 110) E d_c11_rings_18 (by decide) (fun h7 => ?_) (fun h7 => ?_)
        · replace hF := g_t hF h7
          refine j_lv [0, 1, 2] rfl ?_
          exact hO _ (g_inj hF)
        · replace hF := g_f hF h7
          refine j_blk (pc' := 24) (lv' := [(4, .int (Int32.ofInt 0)), (0, .ref a0), (1, .int x16_1), (2, .int x4_2), (3, .int x16_3)]) (st' := []) E b_c11_rings_21_2 rfl ?_
          refine j_lv [1, 2, 3, 4, 0] rfl ?_
          replace hF := obd_at hF
          obtain ⟨o8, ho8, hF⟩ := hF
          have lpo8 : ∀ (fu : Nat) (w : Int32 × Int32) (o : Int32), iter (f11_rings_L24 s0 a0 x4_2 x16_3) fu w = some o → (fun (o : Int32) => J Γ 6 (HS κ A s0) 0 0 104 [(0, .ref a0), (1, .int o), (2, .int x4_2), (3, .int x16_3)] []) o → (fun (w : Int32 × Int32) => J Γ 6 (HS κ A s0) 0 0 24 [(0, .ref a0), (1, .int w.1), (2, .int x4_2), (3, .int x16_3), (4, .int w.2)] []) w := by
            refine j_iter (P := fun (w : Int32 × Int32) => J Γ 6 (HS κ A s0) 0 0 24 [(0, .ref a0), (1, .int w.1), (2, .int x4_2), (3, .int x16_3), (4, .int w.2)] []) (G := fun (o : Int32) => J Γ 6 (HS κ A s0) 0 0 104 [(0, .ref a0), (1, .int o), (2, .int x4_2), (3, .int x16_3)] []) ?_
            rintro ⟨x24_1, x24_4⟩ q hF hI hO
            show J Γ 6 (HS κ A s0) 0 0 24 [(0, .ref a0), (1, .int x24_1), (2, .int x4_2), (3, .int x16_3), (4, .int x24_4)] []
            unfold f11_rings_L24 at hF
            refine j_blk (pc' := 27) (lv' := [(0, .ref a0), (1, .int x24_1), (2, .int x4_2), (3, .int x16_3), (4, .int x24_4)]) (st' := [.int x16_3, .int x24_4]) E b_c11_rings_24_2 rfl ?_
            refine j_icmp_ge (tgt := 104) E d_c11_rings_27 (by decide) (fun h9 => ?_) (fun h9 => ?_)
            · replace hF := g_t hF h9
              refine j_lv [0, 1, 2, 3] rfl ?_
              exact hO _ (g_inj hF)
            · replace hF := g_f hF h9
              refine j_blk (pc' := 47) (lv' := [(5, .int ((((Int32.ofInt 1) <<< (x4_2 &&& 31)) ||| ((Int32.ofInt 1) <<< (x16_3 &&& 31))) ||| ((Int32.ofInt 1) <<< (x24_4 &&& 31)))), (0, .ref a0), (1, .int x24_1), (2, .int x4_2), (3, .int x16_3), (4, .int x24_4)]) (st' := [.int x4_2, .ref a0, .int x24_1]) E b_c11_rings_30_15 rfl ?_
              replace hF := ocl_at hF
              obtain ⟨hc, hF⟩ := hF
              replace hF := obd_at hF
              obtain ⟨v11, he10, hF⟩ := hF
              refine j_callv [.int x4_2] [.int x24_1] E w_RX11_63 (hroom 0 2 (by decide) (by decide)) hAA (c11_beaten _ κ A _ _ _  he10) (fun _ h => h) (fun _ _ _ h _ _ => h) (fun _ h => j_recv E h hc rfl) rfl rfl (Nat.le_of_ble_eq_true rfl) d_c11_rings_47 ⟨Nat.zero_le _, Nat.zero_le _⟩ ?_
              refine j_blk (pc' := 53) (lv' := [(5, .int ((((Int32.ofInt 1) <<< (x4_2 &&& 31)) ||| ((Int32.ofInt 1) <<< (x16_3 &&& 31))) ||| ((Int32.ofInt 1) <<< (x24_4 &&& 31)))), (0, .ref a0), (1, .int x24_1), (2, .int x4_2), (3, .int x16_3), (4, .int x24_4)]) (st' := [.int (v11 &&& ((((Int32.ofInt 1) <<< (x4_2 &&& 31)) ||| ((Int32.ofInt 1) <<< (x16_3 &&& 31))) ||| ((Int32.ofInt 1) <<< (x24_4 &&& 31)))), .int x24_1]) E b_c11_rings_50_2 rfl ?_
              replace hF := obd_at hF
              obtain ⟨v13, he12, hF⟩ := hF
              refine j_calls [.int (v11 &&& ((((Int32.ofInt 1) <<< (x4_2 &&& 31)) ||| ((Int32.ofInt 1) <<< (x16_3 &&& 31))) ||| ((Int32.ofInt 1) <<< (x24_4 &&& 31))))] [.int x24_1] E w_RX11_67 (hroom 0 3 (by decide) (by decide)) hAA (c11_bits _ κ A (HS κ A s0) _  he12) (fun _ h => h) (fun _ _ _ h _ _ => h) rfl rfl (Nat.le_of_ble_eq_true rfl) d_c11_rings_53 ⟨Nat.zero_le _, Nat.zero_le _⟩ ?_
              refine j_blk (pc' := 57) (lv' := [(5, .int ((((Int32.ofInt 1) <<< (x4_2 &&& 31)) ||| ((Int32.ofInt 1) <<< (x16_3 &&& 31))) ||| ((Int32.ofInt 1) <<< (x24_4 &&& 31)))), (0, .ref a0), (1, .int x24_1), (2, .int x4_2), (3, .int x16_3), (4, .int x24_4)]) (st' := [.int (Int32.ofInt 1), .int v13, .int x24_1]) E b_c11_rings_56_1 rfl ?_
              refine j_icmp_ne (tgt := 95) E d_c11_rings_57 (by decide) (fun h14 => ?_) (fun h14 => ?_)
              · replace hF := g_f hF h14
                refine j_blk (pc' := 101) (lv' := [(4, .int (x24_4 + Int32.ofInt 1)), (1, .int (x24_1 + (Int32.ofInt 0))), (5, .int ((((Int32.ofInt 1) <<< (x4_2 &&& 31)) ||| ((Int32.ofInt 1) <<< (x16_3 &&& 31))) ||| ((Int32.ofInt 1) <<< (x24_4 &&& 31)))), (0, .ref a0), (2, .int x4_2), (3, .int x16_3)]) (st' := []) E b_c11_rings_95_4 rfl ?_
                refine j_goto (tgt := 24) E d_c11_rings_101 (by decide) ?_
                refine j_lv [3, 1, 4, 5, 0] rfl ?_
                exact hI _ (g_inj hF)
              · replace hF := g_t hF h14
                refine j_blk (pc' := 62) (lv' := [(5, .int ((((Int32.ofInt 1) <<< (x4_2 &&& 31)) ||| ((Int32.ofInt 1) <<< (x16_3 &&& 31))) ||| ((Int32.ofInt 1) <<< (x24_4 &&& 31)))), (0, .ref a0), (1, .int x24_1), (2, .int x4_2), (3, .int x16_3), (4, .int x24_4)]) (st' := [.int x16_3, .ref a0, .int x24_1]) E b_c11_rings_60_2 rfl ?_
                replace hF := ocl_at hF
                obtain ⟨hc, hF⟩ := hF
                replace hF := obd_at hF
                obtain ⟨v16, he15, hF⟩ := hF
                refine j_callv [.int x16_3] [.int x24_1] E w_RX11_63 (hroom 0 2 (by decide) (by decide)) hAA (c11_beaten _ κ A _ _ _  he15) (fun _ h => h) (fun _ _ _ h _ _ => h) (fun _ h => j_recv E h hc rfl) rfl rfl (Nat.le_of_ble_eq_true rfl) d_c11_rings_62 ⟨Nat.zero_le _, Nat.zero_le _⟩ ?_
                refine j_blk (pc' := 68) (lv' := [(5, .int ((((Int32.ofInt 1) <<< (x4_2 &&& 31)) ||| ((Int32.ofInt 1) <<< (x16_3 &&& 31))) ||| ((Int32.ofInt 1) <<< (x24_4 &&& 31)))), (0, .ref a0), (1, .int x24_1), (2, .int x4_2), (3, .int x16_3), (4, .int x24_4)]) (st' := [.int (v16 &&& ((((Int32.ofInt 1) <<< (x4_2 &&& 31)) ||| ((Int32.ofInt 1) <<< (x16_3 &&& 31))) ||| ((Int32.ofInt 1) <<< (x24_4 &&& 31)))), .int x24_1]) E b_c11_rings_65_2 rfl ?_
                replace hF := obd_at hF
                obtain ⟨v18, he17, hF⟩ := hF
                refine j_calls [.int (v16 &&& ((((Int32.ofInt 1) <<< (x4_2 &&& 31)) ||| ((Int32.ofInt 1) <<< (x16_3 &&& 31))) ||| ((Int32.ofInt 1) <<< (x24_4 &&& 31))))] [.int x24_1] E w_RX11_67 (hroom 0 3 (by decide) (by decide)) hAA (c11_bits _ κ A (HS κ A s0) _  he17) (fun _ h => h) (fun _ _ _ h _ _ => h) rfl rfl (Nat.le_of_ble_eq_true rfl) d_c11_rings_68 ⟨Nat.zero_le _, Nat.zero_le _⟩ ?_
                refine j_blk (pc' := 72) (lv' := [(5, .int ((((Int32.ofInt 1) <<< (x4_2 &&& 31)) ||| ((Int32.ofInt 1) <<< (x16_3 &&& 31))) ||| ((Int32.ofInt 1) <<< (x24_4 &&& 31)))), (0, .ref a0), (1, .int x24_1), (2, .int x4_2), (3, .int x16_3), (4, .int x24_4)]) (st' := [.int (Int32.ofInt 1), .int v18, .int x24_1]) E b_c11_rings_71_1 rfl ?_
                refine j_icmp_ne (tgt := 95) E d_c11_rings_72 (by decide) (fun h19 => ?_) (fun h19 => ?_)
                · replace hF := g_f hF h19
                  refine j_blk (pc' := 101) (lv' := [(4, .int (x24_4 + Int32.ofInt 1)), (1, .int (x24_1 + (Int32.ofInt 0))), (5, .int ((((Int32.ofInt 1) <<< (x4_2 &&& 31)) ||| ((Int32.ofInt 1) <<< (x16_3 &&& 31))) ||| ((Int32.ofInt 1) <<< (x24_4 &&& 31)))), (0, .ref a0), (2, .int x4_2), (3, .int x16_3)]) (st' := []) E b_c11_rings_95_4 rfl ?_
                  refine j_goto (tgt := 24) E d_c11_rings_101 (by decide) ?_
                  refine j_lv [3, 1, 4, 5, 0] rfl ?_
                  exact hI _ (g_inj hF)
                · replace hF := g_t hF h19
                  refine j_blk (pc' := 78) (lv' := [(5, .int ((((Int32.ofInt 1) <<< (x4_2 &&& 31)) ||| ((Int32.ofInt 1) <<< (x16_3 &&& 31))) ||| ((Int32.ofInt 1) <<< (x24_4 &&& 31)))), (0, .ref a0), (1, .int x24_1), (2, .int x4_2), (3, .int x16_3), (4, .int x24_4)]) (st' := [.int x24_4, .ref a0, .int x24_1]) E b_c11_rings_75_2 rfl ?_
                  replace hF := ocl_at hF
                  obtain ⟨hc, hF⟩ := hF
                  replace hF := obd_at hF
                  obtain ⟨v21, he20, hF⟩ := hF
                  refine j_callv [.int x24_4] [.int x24_1] E w_RX11_63 (hroom 0 2 (by decide) (by decide)) hAA (c11_beaten _ κ A _ _ _  he20) (fun _ h => h) (fun _ _ _ h _ _ => h) (fun _ h => j_recv E h hc rfl) rfl rfl (Nat.le_of_ble_eq_true rfl) d_c11_rings_78 ⟨Nat.zero_le _, Nat.zero_le _⟩ ?_
                  refine j_blk (pc' := 84) (lv' := [(5, .int ((((Int32.ofInt 1) <<< (x4_2 &&& 31)) ||| ((Int32.ofInt 1) <<< (x16_3 &&& 31))) ||| ((Int32.ofInt 1) <<< (x24_4 &&& 31)))), (0, .ref a0), (1, .int x24_1), (2, .int x4_2), (3, .int x16_3), (4, .int x24_4)]) (st' := [.int (v21 &&& ((((Int32.ofInt 1) <<< (x4_2 &&& 31)) ||| ((Int32.ofInt 1) <<< (x16_3 &&& 31))) ||| ((Int32.ofInt 1) <<< (x24_4 &&& 31)))), .int x24_1]) E b_c11_rings_81_2 rfl ?_
                  replace hF := obd_at hF
                  obtain ⟨v23, he22, hF⟩ := hF
                  refine j_calls [.int (v21 &&& ((((Int32.ofInt 1) <<< (x4_2 &&& 31)) ||| ((Int32.ofInt 1) <<< (x16_3 &&& 31))) ||| ((Int32.ofInt 1) <<< (x24_4 &&& 31))))] [.int x24_1] E w_RX11_67 (hroom 0 3 (by decide) (by decide)) hAA (c11_bits _ κ A (HS κ A s0) _  he22) (fun _ h => h) (fun _ _ _ h _ _ => h) rfl rfl (Nat.le_of_ble_eq_true rfl) d_c11_rings_84 ⟨Nat.zero_le _, Nat.zero_le _⟩ ?_
                  refine j_blk (pc' := 88) (lv' := [(5, .int ((((Int32.ofInt 1) <<< (x4_2 &&& 31)) ||| ((Int32.ofInt 1) <<< (x16_3 &&& 31))) ||| ((Int32.ofInt 1) <<< (x24_4 &&& 31)))), (0, .ref a0), (1, .int x24_1), (2, .int x4_2), (3, .int x16_3), (4, .int x24_4)]) (st' := [.int (Int32.ofInt 1), .int v23, .int x24_1]) E b_c11_rings_87_1 rfl ?_
                  refine j_icmp_ne (tgt := 95) E d_c11_rings_88 (by decide) (fun h24 => ?_) (fun h24 => ?_)
                  · replace hF := g_f hF h24
                    refine j_blk (pc' := 101) (lv' := [(4, .int (x24_4 + Int32.ofInt 1)), (1, .int (x24_1 + (Int32.ofInt 0))), (5, .int ((((Int32.ofInt 1) <<< (x4_2 &&& 31)) ||| ((Int32.ofInt 1) <<< (x16_3 &&& 31))) ||| ((Int32.ofInt 1) <<< (x24_4 &&& 31)))), (0, .ref a0), (2, .int x4_2), (3, .int x16_3)]) (st' := []) E b_c11_rings_95_4 rfl ?_
                    refine j_goto (tgt := 24) E d_c11_rings_101 (by decide) ?_
                    refine j_lv [3, 1, 4, 5, 0] rfl ?_
                    exact hI _ (g_inj hF)
                  · replace hF := g_t hF h24
                    refine j_blk (pc' := 92) (lv' := [(5, .int ((((Int32.ofInt 1) <<< (x4_2 &&& 31)) ||| ((Int32.ofInt 1) <<< (x16_3 &&& 31))) ||| ((Int32.ofInt 1) <<< (x24_4 &&& 31)))), (0, .ref a0), (1, .int x24_1), (2, .int x4_2), (3, .int x16_3), (4, .int x24_4)]) (st' := [.int (Int32.ofInt 1), .int x24_1]) E b_c11_rings_91_1 rfl ?_
                    refine j_goto (tgt := 96) E d_c11_rings_92 (by decide) ?_
                    refine j_blk (pc' := 101) (lv' := [(4, .int (x24_4 + Int32.ofInt 1)), (1, .int (x24_1 + (Int32.ofInt 1))), (5, .int ((((Int32.ofInt 1) <<< (x4_2 &&& 31)) ||| ((Int32.ofInt 1) <<< (x16_3 &&& 31))) ||| ((Int32.ofInt 1) <<< (x24_4 &&& 31)))), (0, .ref a0), (2, .int x4_2), (3, .int x16_3)]) (st' := []) E b_c11_rings_96_3 rfl ?_
                    refine j_goto (tgt := 24) E d_c11_rings_101 (by decide) ?_
                    refine j_lv [3, 1, 4, 5, 0] rfl ?_
                    exact hI _ (g_inj hF)
          refine lpo8 FU (x16_1, Int32.ofInt 0) o8 ho8 ?_
          obtain ⟨e24_1, rfl⟩ : ∃ z, z = o8 := ⟨_, rfl⟩
          show J Γ 6 (HS κ A s0) 0 0 104 [(0, .ref a0), (1, .int e24_1), (2, .int x4_2), (3, .int x16_3)] []
          refine j_blk (pc' := 107) (lv' := [(3, .int (x16_3 + Int32.ofInt 1)), (0, .ref a0), (1, .int e24_1), (2, .int x4_2)]) (st' := []) E b_c11_rings_104_1 rfl ?_
          refine j_goto (tgt := 16) E d_c11_rings_107 (by decide) ?_
          refine j_lv [1, 2, 3, 0] rfl ?_
          exact hI _ (g_inj hF)
      refine lpo6 FU (x4_1, Int32.ofInt 0) o6 ho6 ?_
      obtain ⟨e16_1, rfl⟩ : ∃ z, z = o6 := ⟨_, rfl⟩
      show J Γ 6 (HS κ A s0) 0 0 110 [(0, .ref a0), (1, .int e16_1), (2, .int x4_2)] []
      refine j_blk (pc' := 113) (lv' := [(2, .int (x4_2 + Int32.ofInt 1)), (0, .ref a0), (1, .int e16_1)]) (st' := []) E b_c11_rings_110_1 rfl ?_
      refine j_goto (tgt := 4) E d_c11_rings_113 (by decide) ?_
      refine j_lv [1, 2, 0] rfl ?_
      exact hI _ (g_inj hF)
  refine lpo1 FU (Int32.ofInt 0, Int32.ofInt 0) o1 ho1 ?_
  obtain ⟨e4_1, rfl⟩ : ∃ z, z = o1 := ⟨_, rfl⟩
  show J Γ 6 (HS κ A s0) 0 0 116 [(1, .int e4_1)] []
  refine j_blk (pc' := 117) (lv' := [(1, .int e4_1)]) (st' := [.int e4_1]) E b_c11_rings_116_1 rfl ?_
  have e : res = e4_1 := g_inj hF
  subst e
  exact j_iret E hQ d_c11_rings_117 (fun _ h => h)
theorem b_c11_cup_0_4 : bdec cX11_cup 0 [.bipush (-4), .istore_n 1, .iconst 0, .istore_n 2] = true := by decide +kernel
theorem b_c11_cup_5_2 : bdec cX11_cup 5 [.iload_n 2, .aload_n 0] = true := by decide +kernel
theorem d_c11_cup_7 : decode cX11_cup 7 = .ok (.getfield 9, 3) := by decide +kernel
theorem b_c11_cup_10_1 : bdec cX11_cup 10 [.iconst 0] = true := by decide +kernel
theorem d_c11_cup_11 : decode cX11_cup 11 = .ok (.iaload, 1) := by decide +kernel
theorem d_c11_cup_12 : decode cX11_cup 12 = .ok (.if_icmp .ge 34, 3) := by decide +kernel
theorem b_c11_cup_15_1 : bdec cX11_cup 15 [.iload_n 1] = true := by decide +kernel
theorem d_c11_cup_16 : decode cX11_cup 16 = .ok (.ifCond .lt 22, 3) := by decide +kernel
theorem b_c11_cup_38_3 : bdec cX11_cup 38 [.iload_n 2, .istore_n 1, .iinc 2 1] = true := by decide +kernel
theorem d_c11_cup_43 : decode cX11_cup 43 = .ok (.goto (-38), 3) := by decide +kernel
theorem b_c11_cup_19_2 : bdec cX11_cup 19 [.aload_n 0, .iload_n 2] = true := by decide +kernel
theorem d_c11_cup_21 : decode cX11_cup 21 = .ok (.invokevirtual 63, 3) := by decide +kernel
theorem d_c11_cup_24 : decode cX11_cup 24 = .ok (.invokestatic 67, 3) := by decide +kernel
theorem b_c11_cup_27_2 : bdec cX11_cup 27 [.aload_n 0, .iload_n 1] = true := by decide +kernel
theorem d_c11_cup_29 : decode cX11_cup 29 = .ok (.invokevirtual 63, 3) := by decide +kernel
theorem d_c11_cup_32 : decode cX11_cup 32 = .ok (.invokestatic 67, 3) := by decide +kernel
theorem d_c11_cup_35 : decode cX11_cup 35 = .ok (.if_icmp .le 5, 3) := by decide +kernel
theorem b_c11_cup_40_1 : bdec cX11_cup 40 [.iinc 2 1] = true := by decide +kernel
theorem b_c11_cup_46_1 : bdec cX11_cup 46 [.iload_n 1] = true := by decide +kernel
theorem d_c11_cup_47 : decode cX11_cup 47 = .ok (.ireturn, 1) := by decide +kernel
def f11_cup_L5 (s0 : HM) (a0 : Nat) (w : Int32 × Int32) : Option ((Int32 × Int32) ⊕ (Int32)) := match w with
  | (x5_1, x5_2) => obd (hfld s0 [11] 0 a0) (fun v2 => orf v2 (fun b3 => obd (hald s0 b3 (Int32.ofInt 0)) (fun v4 => if v4 ≤ x5_2 then (some (.inr x5_1)) else (if x5_1 < 0 then (some (.inl (x5_2, x5_2 + Int32.ofInt 1))) else (ocl s0 a0 11 (obd (f11_beaten s0 a0 x5_2) (fun v8 => obd (f11_bits v8) (fun v10 => ocl s0 a0 11 (obd (f11_beaten s0 a0 x5_1) (fun v12 => obd (f11_bits v12) (fun v14 => if v10 ≤ v14 then (some (.inl (x5_1, x5_2 + Int32.ofInt 1))) else (some (.inl (x5_2, x5_2 + Int32.ofInt 1))))))))))))))
def f11_cup (s0 : HM) (a0 : Nat) : Option (Int32) := obd (iter (f11_cup_L5 s0 a0) FU ((Int8.ofInt (-4)).toInt32, Int32.ofInt 0)) (fun o1 => match o1 with | e5_1 => some e5_1)
set_option maxRecDepth 100000 in
set_option maxHeartbeats 4000000 in
theorem c11_cup (l : Launch) (κ : KP) (A : Nat → Prop) (s0 : HM) (a0 : Nat) {res : Int32} (hF : f11_cup s0 a0 = some res) : Met l yX11_cup (Cond.code yX11_cup cX11_cup 3 (some .int) :: WT) (rmL 1 0 0) (PP κ A [.ref a0] (HS κ A s0)) (QQ (some (.int res)) (HS κ A s0) A) 0 0 A := by
  refine met_of (own := RX11) (by decide) rfl (Nat.le_of_ble_eq_true rfl) ?_
  intro Γ E hQ hL hR hA hent hini
  have hAA : ∀ q, A q → jA Γ q := fun q h => by rw [hA]; exact h
  have hroom : ∀ (d mL : Nat) {mc ms : Nat}, d < 1 → mL ≤ 21 → (rmL d mc ms).frames + 1 ≤ (jR Γ).frames ∧ 8 + (mL + 11) + (rmL d mc ms).locals ≤ (jR Γ).locals := fun d mL mc ms h1 h2 => by rw [hR]; exact rmL_le h1 h2
  show J Γ 3 (HS κ A s0) 0 0 0 [(0, .ref a0)] []
  unfold f11_cup at hF
  refine j_blk (pc' := 5) (lv' := [(2, .int (Int32.ofInt 0)), (1, .int ((Int8.ofInt (-4)).toInt32)), (0, .ref a0)]) (st' := []) E b_c11_cup_0_4 rfl ?_
  refine j_lv [2, 1, 0] rfl ?_
  replace hF := obd_at hF
  obtain ⟨o1, ho1, hF⟩ := hF
  have lpo1 : ∀ (fu : Nat) (w : Int32 × Int32) (o : Int32), iter (f11_cup_L5 s0 a0) fu w = some o → (fun (o : Int32) => J Γ 3 (HS κ A s0) 0 0 46 [(1, .int o)] []) o → (fun (w : Int32 × Int32) => J Γ 3 (HS κ A s0) 0 0 5 [(0, .ref a0), (1, .int w.1), (2, .int w.2)] []) w := by
    refine j_iter (P := fun (w : Int32 × Int32) => J Γ 3 (HS κ A s0) 0 0 5 [(0, .ref a0), (1, .int w.1), (2, .int w.2)] []) (G := fun (o : Int32) => J Γ 3 (HS κ A s0) 0 0 46 [(1, .int o)] []) ?_
    rintro ⟨x5_1, x5_2⟩ q hF hI hO
    show J Γ 3 (HS κ A s0) 0 0 5 [(0, .ref a0), (1, .int x5_1), (2, .int x5_2)] []
    unfold f11_cup_L5 at hF
    refine j_blk (pc' := 7) (lv' := [(0, .ref a0), (1, .int x5_1), (2, .int x5_2)]) (st' := [.ref a0, .int x5_2]) E b_c11_cup_5_2 rfl ?_
    replace hF := obd_at hF
    obtain ⟨v2, ev2, hF⟩ := hF
    refine j_getf E fg_RX11_9 d_c11_cup_7 ev2 ?_
    refine j_blk (pc' := 11) (lv' := [(0, .ref a0), (1, .int x5_1), (2, .int x5_2)]) (st' := [.int (Int32.ofInt 0), v2, .int x5_2]) E b_c11_cup_10_1 rfl ?_
    replace hF := orf_at hF
    obtain ⟨b3, rfl, hF⟩ := hF
    replace hF := obd_at hF
    obtain ⟨v4, ev4, hF⟩ := hF
    refine j_iald E d_c11_cup_11 ev4 ?_
    refine j_icmp_ge (tgt := 46) E d_c11_cup_12 (by decide) (fun h5 => ?_) (fun h5 => ?_)
    · replace hF := g_t hF h5
      refine j_lv [1] rfl ?_
      exact hO _ (g_inj hF)
    · replace hF := g_f hF h5
      refine j_blk (pc' := 16) (lv' := [(0, .ref a0), (1, .int x5_1), (2, .int x5_2)]) (st' := [.int x5_1]) E b_c11_cup_15_1 rfl ?_
      refine j_if_lt (tgt := 38) E d_c11_cup_16 (by decide) (fun h6 => ?_) (fun h6 => ?_)
      · replace hF := g_t hF h6
        refine j_blk (pc' := 43) (lv' := [(2, .int (x5_2 + Int32.ofInt 1)), (1, .int x5_2), (0, .ref a0)]) (st' := []) E b_c11_cup_38_3 rfl ?_
        refine j_goto (tgt := 5) E d_c11_cup_43 (by decide) ?_
        refine j_lv [2, 1, 0] rfl ?_
        exact hI _ (g_inj hF)
      · replace hF := g_f hF h6
        refine j_blk (pc' := 21) (lv' := [(0, .ref a0), (1, .int x5_1), (2, .int x5_2)]) (st' := [.int x5_2, .ref a0]) E b_c11_cup_19_2 rfl ?_
        replace hF := ocl_at hF
        obtain ⟨hc, hF⟩ := hF
        replace hF := obd_at hF
        obtain ⟨v8, he7, hF⟩ := hF
        refine j_callv [.int x5_2] [] E w_RX11_63 (hroom 0 2 (by decide) (by decide)) hAA (c11_beaten _ κ A _ _ _  he7) (fun _ h => h) (fun _ _ _ h _ _ => h) (fun _ h => j_recv E h hc rfl) rfl rfl (Nat.le_of_ble_eq_true rfl) d_c11_cup_21 ⟨Nat.zero_le _, Nat.zero_le _⟩ ?_
        replace hF := obd_at hF
        obtain ⟨v10, he9, hF⟩ := hF
        refine j_calls [.int v8] [] E w_RX11_67 (hroom 0 3 (by decide) (by decide)) hAA (c11_bits _ κ A (HS κ A s0) _  he9) (fun _ h => h) (fun _ _ _ h _ _ => h) rfl rfl (Nat.le_of_ble_eq_true rfl) d_c11_cup_24 ⟨Nat.zero_le _, Nat.zero_le _⟩ ?_
        refine j_blk (pc' := 29) (lv' := [(0, .ref a0), (1, .int x5_1), (2, .int x5_2)]) (st' := [.int x5_1, .ref a0, .int v10]) E b_c11_cup_27_2 rfl ?_
        replace hF := ocl_at hF
        obtain ⟨hc, hF⟩ := hF
        replace hF := obd_at hF
        obtain ⟨v12, he11, hF⟩ := hF
        refine j_callv [.int x5_1] [.int v10] E w_RX11_63 (hroom 0 2 (by decide) (by decide)) hAA (c11_beaten _ κ A _ _ _  he11) (fun _ h => h) (fun _ _ _ h _ _ => h) (fun _ h => j_recv E h hc rfl) rfl rfl (Nat.le_of_ble_eq_true rfl) d_c11_cup_29 ⟨Nat.zero_le _, Nat.zero_le _⟩ ?_
        replace hF := obd_at hF
        obtain ⟨v14, he13, hF⟩ := hF
        refine j_calls [.int v12] [.int v10] E w_RX11_67 (hroom 0 3 (by decide) (by decide)) hAA (c11_bits _ κ A (HS κ A s0) _  he13) (fun _ h => h) (fun _ _ _ h _ _ => h) rfl rfl (Nat.le_of_ble_eq_true rfl) d_c11_cup_32 ⟨Nat.zero_le _, Nat.zero_le _⟩ ?_
        refine j_icmp_le (tgt := 40) E d_c11_cup_35 (by decide) (fun h15 => ?_) (fun h15 => ?_)
        · replace hF := g_t hF h15
          refine j_blk (pc' := 43) (lv' := [(2, .int (x5_2 + Int32.ofInt 1)), (0, .ref a0), (1, .int x5_1)]) (st' := []) E b_c11_cup_40_1 rfl ?_
          refine j_goto (tgt := 5) E d_c11_cup_43 (by decide) ?_
          refine j_lv [1, 2, 0] rfl ?_
          exact hI _ (g_inj hF)
        · replace hF := g_f hF h15
          refine j_blk (pc' := 43) (lv' := [(2, .int (x5_2 + Int32.ofInt 1)), (1, .int x5_2), (0, .ref a0)]) (st' := []) E b_c11_cup_38_3 rfl ?_
          refine j_goto (tgt := 5) E d_c11_cup_43 (by decide) ?_
          refine j_lv [2, 1, 0] rfl ?_
          exact hI _ (g_inj hF)
  refine lpo1 FU ((Int8.ofInt (-4)).toInt32, Int32.ofInt 0) o1 ho1 ?_
  obtain ⟨e5_1, rfl⟩ : ∃ z, z = o1 := ⟨_, rfl⟩
  show J Γ 3 (HS κ A s0) 0 0 46 [(1, .int e5_1)] []
  refine j_blk (pc' := 47) (lv' := [(1, .int e5_1)]) (st' := [.int e5_1]) E b_c11_cup_46_1 rfl ?_
  have e : res = e5_1 := g_inj hF
  subst e
  exact j_iret E hQ d_c11_cup_47 (fun _ h => h)
theorem b_c11_isRound_0_2 : bdec cX11_isRound 0 [.iload_n 0, .i2l] = true := by decide +kernel
theorem d_c11_isRound_2 : decode cX11_isRound 2 = .ok (.ldc2_w 203, 3) := by decide +kernel
theorem d_c11_isRound_5 : decode cX11_isRound 5 = .ok (.ldc2_w 205, 3) := by decide +kernel
theorem d_c11_isRound_8 : decode cX11_isRound 8 = .ok (.invokestatic 49, 3) := by decide +kernel
theorem d_c11_isRound_11 : decode cX11_isRound 11 = .ok (.ifCond .eq 14, 3) := by decide +kernel
theorem b_c11_isRound_25_1 : bdec cX11_isRound 25 [.iconst 0] = true := by decide +kernel
theorem d_c11_isRound_26 : decode cX11_isRound 26 = .ok (.ireturn, 1) := by decide +kernel
theorem b_c11_isRound_14_2 : bdec cX11_isRound 14 [.iload_n 0, .iconst 2] = true := by decide +kernel
theorem d_c11_isRound_16 : decode cX11_isRound 16 = .ok (.irem, 1) := by decide +kernel
theorem b_c11_isRound_17_1 : bdec cX11_isRound 17 [.iconst 1] = true := by decide +kernel
theorem d_c11_isRound_18 : decode cX11_isRound 18 = .ok (.if_icmp .ne 7, 3) := by decide +kernel
theorem b_c11_isRound_21_1 : bdec cX11_isRound 21 [.iconst 1] = true := by decide +kernel
theorem d_c11_isRound_22 : decode cX11_isRound 22 = .ok (.goto 4, 3) := by decide +kernel
def f11_isRound (p0 : Int32) : Option (Int32) := obd (f11_isIn p0.toInt64 3 19) (fun v2 => if v2 = 0 then (some (Int32.ofInt 0)) else (onz (Int32.ofInt 2) (if (p0 - p0 / (Int32.ofInt 2) * (Int32.ofInt 2)) = (Int32.ofInt 1) then (some (Int32.ofInt 1)) else (some (Int32.ofInt 0)))))
set_option maxRecDepth 100000 in
set_option maxHeartbeats 4000000 in
theorem c11_isRound (l : Launch) (κ : KP) (A : Nat → Prop) (HP : Heap → Prop) (p0 : Int32) {res : Int32} (hF : f11_isRound p0 = some res) : Met l yX11_isRound (Cond.code yX11_isRound cX11_isRound 1 (some .boolean) :: WT) (rmL 1 0 0) (PP κ A [.int p0] HP) (QQ (some (.int res)) HP A) 0 0 A := by
  refine met_of (own := RX11) (by decide) rfl (Nat.le_of_ble_eq_true rfl) ?_
  intro Γ E hQ hL hR hA hent hini
  have hAA : ∀ q, A q → jA Γ q := fun q h => by rw [hA]; exact h
  have hroom : ∀ (d mL : Nat) {mc ms : Nat}, d < 1 → mL ≤ 21 → (rmL d mc ms).frames + 1 ≤ (jR Γ).frames ∧ 8 + (mL + 11) + (rmL d mc ms).locals ≤ (jR Γ).locals := fun d mL mc ms h1 h2 => by rw [hR]; exact rmL_le h1 h2
  show J Γ 1 HP 0 0 0 [(0, .int p0)] []
  unfold f11_isRound at hF
  refine j_blk (pc' := 2) (lv' := [(0, .int p0)]) (st' := [.long p0.toInt64]) E b_c11_isRound_0_2 rfl ?_
  refine j_ldc2 (u := 3) E d_c11_isRound_2 m_1092 ?_
  refine j_ldc2 (u := 19) E d_c11_isRound_5 m_1093 ?_
  replace hF := obd_at hF
  obtain ⟨v2, he1, hF⟩ := hF
  refine j_calls [.long p0.toInt64, .long 3, .long 19] [] E w_RX11_49 (hroom 0 6 (by decide) (by decide)) hAA (c11_isIn _ κ A HP _ _ _  he1) (fun _ h => h) (fun _ _ _ h _ _ => h) rfl rfl (Nat.le_of_ble_eq_true rfl) d_c11_isRound_8 ⟨Nat.zero_le _, Nat.zero_le _⟩ ?_
  refine j_if_eq (tgt := 25) E d_c11_isRound_11 (by decide) (fun h3 => ?_) (fun h3 => ?_)
  · replace hF := g_t hF h3
    refine j_blk (pc' := 26) (lv' := [(0, .int p0)]) (st' := [.int (Int32.ofInt 0)]) E b_c11_isRound_25_1 rfl ?_
    have e : res = Int32.ofInt 0 := g_inj hF
    subst e
    exact j_zret E hQ nb_0 d_c11_isRound_26 (fun _ h => h)
  · replace hF := g_f hF h3
    refine j_blk (pc' := 16) (lv' := [(0, .int p0)]) (st' := [.int (Int32.ofInt 2), .int p0]) E b_c11_isRound_14_2 rfl ?_
    replace hF := onz_at hF
    obtain ⟨h0, hF⟩ := hF
    refine j_irem E d_c11_isRound_16 h0 ?_
    refine j_blk (pc' := 18) (lv' := [(0, .int p0)]) (st' := [.int (Int32.ofInt 1), .int (p0 - p0 / (Int32.ofInt 2) * (Int32.ofInt 2))]) E b_c11_isRound_17_1 rfl ?_
    refine j_icmp_ne (tgt := 25) E d_c11_isRound_18 (by decide) (fun h4 => ?_) (fun h4 => ?_)
    · replace hF := g_f hF h4
      refine j_blk (pc' := 26) (lv' := [(0, .int p0)]) (st' := [.int (Int32.ofInt 0)]) E b_c11_isRound_25_1 rfl ?_
      have e : res = Int32.ofInt 0 := g_inj hF
      subst e
      exact j_zret E hQ nb_0 d_c11_isRound_26 (fun _ h => h)
    · replace hF := g_t hF h4
      refine j_blk (pc' := 22) (lv' := [(0, .int p0)]) (st' := [.int (Int32.ofInt 1)]) E b_c11_isRound_21_1 rfl ?_
      refine j_goto (tgt := 26) E d_c11_isRound_22 (by decide) ?_
      have e : res = Int32.ofInt 1 := g_inj hF
      subst e
      exact j_zret E hQ nb_1 d_c11_isRound_26 (fun _ h => h)
theorem b_c11_isRoundWell_0_2 : bdec cX11_isRoundWell 0 [.iload_n 2, .iconst 1] = true := by decide +kernel
theorem d_c11_isRoundWell_2 : decode cX11_isRoundWell 2 = .ok (.if_icmp .ne 13, 3) := by decide +kernel
theorem b_c11_isRoundWell_15_2 : bdec cX11_isRoundWell 15 [.iconst 1, .istore_n 3] = true := by decide +kernel
theorem b_c11_isRoundWell_17_2 : bdec cX11_isRoundWell 17 [.iload_n 3, .iload_n 0] = true := by decide +kernel
theorem d_c11_isRoundWell_19 : decode cX11_isRoundWell 19 = .ok (.if_icmp .ge 20, 3) := by decide +kernel
theorem b_c11_isRoundWell_22_3 : bdec cX11_isRoundWell 22 [.iload_n 0, .iload_n 1, .iload_n 3] = true := by decide +kernel
theorem d_c11_isRoundWell_25 : decode cX11_isRoundWell 25 = .ok (.invokestatic 207, 3) := by decide +kernel
theorem d_c11_isRoundWell_28 : decode cX11_isRoundWell 28 = .ok (.ifCond .ne 5, 3) := by decide +kernel
theorem b_c11_isRoundWell_33_1 : bdec cX11_isRoundWell 33 [.iinc 3 1] = true := by decide +kernel
theorem d_c11_isRoundWell_36 : decode cX11_isRoundWell 36 = .ok (.goto (-19), 3) := by decide +kernel
theorem b_c11_isRoundWell_31_1 : bdec cX11_isRoundWell 31 [.iconst 0] = true := by decide +kernel
theorem d_c11_isRoundWell_32 : decode cX11_isRoundWell 32 = .ok (.ireturn, 1) := by decide +kernel
theorem b_c11_isRoundWell_39_1 : bdec cX11_isRoundWell 39 [.iconst 1] = true := by decide +kernel
theorem d_c11_isRoundWell_40 : decode cX11_isRoundWell 40 = .ok (.ireturn, 1) := by decide +kernel
theorem b_c11_isRoundWell_5_1 : bdec cX11_isRoundWell 5 [.iload_n 1] = true := by decide +kernel
theorem d_c11_isRoundWell_6 : decode cX11_isRoundWell 6 = .ok (.ifCond .eq 7, 3) := by decide +kernel
theorem b_c11_isRoundWell_13_1 : bdec cX11_isRoundWell 13 [.iconst 0] = true := by decide +kernel
theorem d_c11_isRoundWell_14 : decode cX11_isRoundWell 14 = .ok (.ireturn, 1) := by decide +kernel
theorem b_c11_isRoundWell_9_1 : bdec cX11_isRoundWell 9 [.iconst 1] = true := by decide +kernel
theorem d_c11_isRoundWell_10 : decode cX11_isRoundWell 10 = .ok (.goto 4, 3) := by decide +kernel
def f11_isRoundWell_L17 (p0 : Int32) (p1 : Int32) (w : Int32) : Option ((Int32) ⊕ ((Int32) ⊕ (Unit))) := match w with
  | x17_3 => if p0 ≤ x17_3 then (some (.inr (.inr ()))) else (obd (f11_areBeaten p0 p1 x17_3) (fun v5 => if v5 = 0 then (some (.inr (.inl (Int32.ofInt 0)))) else (some (.inl (x17_3 + Int32.ofInt 1)))))
def f11_isRoundWell (p0 : Int32) (p1 : Int32) (p2 : Int32) : Option (Int32) := if p2 = (Int32.ofInt 1) then (if p1 = 0 then (some (Int32.ofInt 0)) else (some (Int32.ofInt 1))) else (obd (iter (f11_isRoundWell_L17 p0 p1) FU (Int32.ofInt 1)) (fun o2 => osm o2 (fun o2 => some o2) (fun o2 => some (Int32.ofInt 1))))
set_option maxRecDepth 100000 in
set_option maxHeartbeats 4000000 in
theorem c11_isRoundWell (l : Launch) (κ : KP) (A : Nat → Prop) (HP : Heap → Prop) (p0 : Int32) (p1 : Int32) (p2 : Int32) {res : Int32} (hF : f11_isRoundWell p0 p1 p2 = some res) : Met l yX11_isRoundWell (Cond.code yX11_isRoundWell cX11_isRoundWell 4 (some .boolean) :: WT) (rmL 1 0 0) (PP κ A [.int p0, .int p1, .int p2] HP) (QQ (some (.int res)) HP A) 0 0 A := by
  refine met_of (own := RX11) (by decide) rfl (Nat.le_of_ble_eq_true rfl) ?_
  intro Γ E hQ hL hR hA hent hini
  have hAA : ∀ q, A q → jA Γ q := fun q h => by rw [hA]; exact h
  have hroom : ∀ (d mL : Nat) {mc ms : Nat}, d < 1 → mL ≤ 21 → (rmL d mc ms).frames + 1 ≤ (jR Γ).frames ∧ 8 + (mL + 11) + (rmL d mc ms).locals ≤ (jR Γ).locals := fun d mL mc ms h1 h2 => by rw [hR]; exact rmL_le h1 h2
  show J Γ 4 HP 0 0 0 [(0, .int p0), (1, .int p1), (2, .int p2)] []
  unfold f11_isRoundWell at hF
  refine j_blk (pc' := 2) (lv' := [(0, .int p0), (1, .int p1), (2, .int p2)]) (st' := [.int (Int32.ofInt 1), .int p2]) E b_c11_isRoundWell_0_2 rfl ?_
  refine j_icmp_ne (tgt := 15) E d_c11_isRoundWell_2 (by decide) (fun h1 => ?_) (fun h1 => ?_)
  · replace hF := g_f hF h1
    refine j_blk (pc' := 17) (lv' := [(3, .int (Int32.ofInt 1)), (0, .int p0), (1, .int p1), (2, .int p2)]) (st' := []) E b_c11_isRoundWell_15_2 rfl ?_
    refine j_lv [1, 2, 0] rfl ?_
    replace hF := obd_at hF
    obtain ⟨o2, ho2, hF⟩ := hF
    have lpo2 : ∀ (fu : Nat) (w : Int32) (o : (Int32) ⊕ (Unit)), iter (f11_isRoundWell_L17 p0 p1) fu w = some o → (fun (o : (Int32) ⊕ (Unit)) => match o with | .inl r => r = res | .inr o => J Γ 4 HP 0 0 39 [] []) o → (fun (w : Int32) => J Γ 4 HP 0 0 17 [(0, .int p0), (1, .int p1), (3, .int w)] []) w := by
      refine j_iter (P := fun (w : Int32) => J Γ 4 HP 0 0 17 [(0, .int p0), (1, .int p1), (3, .int w)] []) (G := fun (o : (Int32) ⊕ (Unit)) => match o with | .inl r => r = res | .inr o => J Γ 4 HP 0 0 39 [] []) ?_
      intro x17_3 q hF hI hO
      show J Γ 4 HP 0 0 17 [(0, .int p0), (1, .int p1), (3, .int x17_3)] []
      unfold f11_isRoundWell_L17 at hF
      refine j_blk (pc' := 19) (lv' := [(0, .int p0), (1, .int p1), (3, .int x17_3)]) (st' := [.int p0, .int x17_3]) E b_c11_isRoundWell_17_2 rfl ?_
      refine j_icmp_ge (tgt := 39) E d_c11_isRoundWell_19 (by decide) (fun h3 => ?_) (fun h3 => ?_)
      · replace hF := g_t hF h3
        refine j_lv [] rfl ?_
        exact hO _ (g_inj hF)
      · replace hF := g_f hF h3
        refine j_blk (pc' := 25) (lv' := [(0, .int p0), (1, .int p1), (3, .int x17_3)]) (st' := [.int x17_3, .int p1, .int p0]) E b_c11_isRoundWell_22_3 rfl ?_
        replace hF := obd_at hF
        obtain ⟨v5, he4, hF⟩ := hF
        refine j_calls [.int p0, .int p1, .int x17_3] [] E w_RX11_207 (hroom 0 4 (by decide) (by decide)) hAA (c11_areBeaten _ κ A HP _ _ _  he4) (fun _ h => h) (fun _ _ _ h _ _ => h) rfl rfl (Nat.le_of_ble_eq_true rfl) d_c11_isRoundWell_25 ⟨Nat.zero_le _, Nat.zero_le _⟩ ?_
        refine j_if_ne (tgt := 33) E d_c11_isRoundWell_28 (by decide) (fun h6 => ?_) (fun h6 => ?_)
        · replace hF := g_f hF h6
          refine j_blk (pc' := 36) (lv' := [(3, .int (x17_3 + Int32.ofInt 1)), (0, .int p0), (1, .int p1)]) (st' := []) E b_c11_isRoundWell_33_1 rfl ?_
          refine j_goto (tgt := 17) E d_c11_isRoundWell_36 (by decide) ?_
          refine j_lv [1, 2, 0] rfl ?_
          exact hI _ (g_inj hF)
        · replace hF := g_t hF h6
          refine j_blk (pc' := 32) (lv' := [(0, .int p0), (1, .int p1), (3, .int x17_3)]) (st' := [.int (Int32.ofInt 0)]) E b_c11_isRoundWell_31_1 rfl ?_
          have e : Int32.ofInt 0 = res := hO _ (g_inj hF)
          subst e
          exact j_zret E hQ nb_0 d_c11_isRoundWell_32 (fun _ h => h)
    refine lpo2 FU (Int32.ofInt 1) o2 ho2 ?_
    rcases o2 with o2 | o2
    · exact (g_inj hF).symm
    · skip
      show J Γ 4 HP 0 0 39 [] []
      refine j_blk (pc' := 40) (lv' := []) (st' := [.int (Int32.ofInt 1)]) E b_c11_isRoundWell_39_1 rfl ?_
      have e : res = Int32.ofInt 1 := g_inj hF
      subst e
      exact j_zret E hQ nb_1 d_c11_isRoundWell_40 (fun _ h => h)
  · replace hF := g_t hF h1
    refine j_blk (pc' := 6) (lv' := [(0, .int p0), (1, .int p1), (2, .int p2)]) (st' := [.int p1]) E b_c11_isRoundWell_5_1 rfl ?_
    refine j_if_eq (tgt := 13) E d_c11_isRoundWell_6 (by decide) (fun h7 => ?_) (fun h7 => ?_)
    · replace hF := g_t hF h7
      refine j_blk (pc' := 14) (lv' := [(0, .int p0), (1, .int p1), (2, .int p2)]) (st' := [.int (Int32.ofInt 0)]) E b_c11_isRoundWell_13_1 rfl ?_
      have e : res = Int32.ofInt 0 := g_inj hF
      subst e
      exact j_zret E hQ nb_0 d_c11_isRoundWell_14 (fun _ h => h)
    · replace hF := g_f hF h7
      refine j_blk (pc' := 10) (lv' := [(0, .int p0), (1, .int p1), (2, .int p2)]) (st' := [.int (Int32.ofInt 1)]) E b_c11_isRoundWell_9_1 rfl ?_
      refine j_goto (tgt := 14) E d_c11_isRoundWell_10 (by decide) ?_
      have e : res = Int32.ofInt 1 := g_inj hF
      subst e
      exact j_zret E hQ nb_1 d_c11_isRoundWell_14 (fun _ h => h)
theorem b_c11_isAsPlayed_0_2 : bdec cX11_isAsPlayed 0 [.iconst 0, .istore_n 2] = true := by decide +kernel
theorem b_c11_isAsPlayed_2_2 : bdec cX11_isAsPlayed 2 [.iload_n 2, .aload_n 0] = true := by decide +kernel
theorem d_c11_isAsPlayed_4 : decode cX11_isAsPlayed 4 = .ok (.getfield 28, 3) := by decide +kernel
theorem b_c11_isAsPlayed_7_1 : bdec cX11_isAsPlayed 7 [.iload_n 1] = true := by decide +kernel
theorem d_c11_isAsPlayed_8 : decode cX11_isAsPlayed 8 = .ok (.iaload, 1) := by decide +kernel
theorem d_c11_isAsPlayed_9 : decode cX11_isAsPlayed 9 = .ok (.if_icmp .ge 35, 3) := by decide +kernel
theorem b_c11_isAsPlayed_12_4 : bdec cX11_isAsPlayed 12 [.aload_n 0, .aload_n 0, .iload_n 1, .iload_n 2] = true := by decide +kernel
theorem d_c11_isAsPlayed_16 : decode cX11_isAsPlayed 16 = .ok (.invokevirtual 220, 3) := by decide +kernel
theorem d_c11_isAsPlayed_19 : decode cX11_isAsPlayed 19 = .ok (.invokevirtual 63, 3) := by decide +kernel
theorem b_c11_isAsPlayed_22_5 : bdec cX11_isAsPlayed 22 [.aload_n 0, .iload_n 1, .iload_n 2, .iconst 1, .iadd] = true := by decide +kernel
theorem d_c11_isAsPlayed_27 : decode cX11_isAsPlayed 27 = .ok (.invokevirtual 220, 3) := by decide +kernel
theorem b_c11_isAsPlayed_30_3 : bdec cX11_isAsPlayed 30 [.ishr, .iconst 1, .iand] = true := by decide +kernel
theorem d_c11_isAsPlayed_33 : decode cX11_isAsPlayed 33 = .ok (.ifCond .ne 5, 3) := by decide +kernel
theorem b_c11_isAsPlayed_38_1 : bdec cX11_isAsPlayed 38 [.iinc 2 2] = true := by decide +kernel
theorem d_c11_isAsPlayed_41 : decode cX11_isAsPlayed 41 = .ok (.goto (-39), 3) := by decide +kernel
theorem b_c11_isAsPlayed_36_1 : bdec cX11_isAsPlayed 36 [.iconst 0] = true := by decide +kernel
theorem d_c11_isAsPlayed_37 : decode cX11_isAsPlayed 37 = .ok (.ireturn, 1) := by decide +kernel
theorem b_c11_isAsPlayed_44_1 : bdec cX11_isAsPlayed 44 [.iconst 1] = true := by decide +kernel
theorem d_c11_isAsPlayed_45 : decode cX11_isAsPlayed 45 = .ok (.ireturn, 1) := by decide +kernel
def f11_isAsPlayed_L2 (s0 : HM) (a0 : Nat) (p1 : Int32) (w : Int32) : Option ((Int32) ⊕ ((Int32) ⊕ (Unit))) := match w with
  | x2_2 => obd (hfld s0 [11] 6 a0) (fun v2 => orf v2 (fun b3 => obd (hald s0 b3 p1) (fun v4 => if v4 ≤ x2_2 then (some (.inr (.inr ()))) else (ocl s0 a0 11 (obd (f11_told s0 a0 p1 x2_2) (fun v7 => ocl s0 a0 11 (obd (f11_beaten s0 a0 v7) (fun v9 => ocl s0 a0 11 (obd (f11_told s0 a0 p1 (x2_2 + (Int32.ofInt 1))) (fun v11 => if ((v9 >>> (v11 &&& 31)) &&& (Int32.ofInt 1)) = 0 then (some (.inr (.inl (Int32.ofInt 0)))) else (some (.inl (x2_2 + Int32.ofInt 2)))))))))))))
def f11_isAsPlayed (s0 : HM) (a0 : Nat) (p1 : Int32) : Option (Int32) := obd (iter (f11_isAsPlayed_L2 s0 a0 p1) FU (Int32.ofInt 0)) (fun o1 => osm o1 (fun o1 => some o1) (fun o1 => some (Int32.ofInt 1)))
set_option maxRecDepth 100000 in
set_option maxHeartbeats 4000000 in
theorem c11_isAsPlayed (l : Launch) (κ : KP) (A : Nat → Prop) (s0 : HM) (a0 : Nat) (p1 : Int32) {res : Int32} (hF : f11_isAsPlayed s0 a0 p1 = some res) : Met l yX11_isAsPlayed (Cond.code yX11_isAsPlayed cX11_isAsPlayed 3 (some .boolean) :: WT) (rmL 1 0 0) (PP κ A [.ref a0, .int p1] (HS κ A s0)) (QQ (some (.int res)) (HS κ A s0) A) 0 0 A := by
  refine met_of (own := RX11) (by decide) rfl (Nat.le_of_ble_eq_true rfl) ?_
  intro Γ E hQ hL hR hA hent hini
  have hAA : ∀ q, A q → jA Γ q := fun q h => by rw [hA]; exact h
  have hroom : ∀ (d mL : Nat) {mc ms : Nat}, d < 1 → mL ≤ 21 → (rmL d mc ms).frames + 1 ≤ (jR Γ).frames ∧ 8 + (mL + 11) + (rmL d mc ms).locals ≤ (jR Γ).locals := fun d mL mc ms h1 h2 => by rw [hR]; exact rmL_le h1 h2
  show J Γ 3 (HS κ A s0) 0 0 0 [(0, .ref a0), (1, .int p1)] []
  unfold f11_isAsPlayed at hF
  refine j_blk (pc' := 2) (lv' := [(2, .int (Int32.ofInt 0)), (0, .ref a0), (1, .int p1)]) (st' := []) E b_c11_isAsPlayed_0_2 rfl ?_
  refine j_lv [1, 2, 0] rfl ?_
  replace hF := obd_at hF
  obtain ⟨o1, ho1, hF⟩ := hF
  have lpo1 : ∀ (fu : Nat) (w : Int32) (o : (Int32) ⊕ (Unit)), iter (f11_isAsPlayed_L2 s0 a0 p1) fu w = some o → (fun (o : (Int32) ⊕ (Unit)) => match o with | .inl r => r = res | .inr o => J Γ 3 (HS κ A s0) 0 0 44 [] []) o → (fun (w : Int32) => J Γ 3 (HS κ A s0) 0 0 2 [(0, .ref a0), (1, .int p1), (2, .int w)] []) w := by
    refine j_iter (P := fun (w : Int32) => J Γ 3 (HS κ A s0) 0 0 2 [(0, .ref a0), (1, .int p1), (2, .int w)] []) (G := fun (o : (Int32) ⊕ (Unit)) => match o with | .inl r => r = res | .inr o => J Γ 3 (HS κ A s0) 0 0 44 [] []) ?_
    intro x2_2 q hF hI hO
    show J Γ 3 (HS κ A s0) 0 0 2 [(0, .ref a0), (1, .int p1), (2, .int x2_2)] []
    unfold f11_isAsPlayed_L2 at hF
    refine j_blk (pc' := 4) (lv' := [(0, .ref a0), (1, .int p1), (2, .int x2_2)]) (st' := [.ref a0, .int x2_2]) E b_c11_isAsPlayed_2_2 rfl ?_
    replace hF := obd_at hF
    obtain ⟨v2, ev2, hF⟩ := hF
    refine j_getf E fg_RX11_28 d_c11_isAsPlayed_4 ev2 ?_
    refine j_blk (pc' := 8) (lv' := [(0, .ref a0), (1, .int p1), (2, .int x2_2)]) (st' := [.int p1, v2, .int x2_2]) E b_c11_isAsPlayed_7_1 rfl ?_
    replace hF := orf_at hF
    obtain ⟨b3, rfl, hF⟩ := hF
    replace hF := obd_at hF
    obtain ⟨v4, ev4, hF⟩ := hF
    refine j_iald E d_c11_isAsPlayed_8 ev4 ?_
    refine j_icmp_ge (tgt := 44) E d_c11_isAsPlayed_9 (by decide) (fun h5 => ?_) (fun h5 => ?_)
    · replace hF := g_t hF h5
      refine j_lv [] rfl ?_
      exact hO _ (g_inj hF)
    · replace hF := g_f hF h5
      refine j_blk (pc' := 16) (lv' := [(0, .ref a0), (1, .int p1), (2, .int x2_2)]) (st' := [.int x2_2, .int p1, .ref a0, .ref a0]) E b_c11_isAsPlayed_12_4 rfl ?_
      replace hF := ocl_at hF
      obtain ⟨hc, hF⟩ := hF
      replace hF := obd_at hF
      obtain ⟨v7, he6, hF⟩ := hF
      refine j_callv [.int p1, .int x2_2] [.ref a0] E w_RX11_220 (hroom 0 3 (by decide) (by decide)) hAA (c11_told _ κ A _ _ _ _  he6) (fun _ h => h) (fun _ _ _ h _ _ => h) (fun _ h => j_recv E h hc rfl) rfl rfl (Nat.le_of_ble_eq_true rfl) d_c11_isAsPlayed_16 ⟨Nat.zero_le _, Nat.zero_le _⟩ ?_
      replace hF := ocl_at hF
      obtain ⟨hc, hF⟩ := hF
      replace hF := obd_at hF
      obtain ⟨v9, he8, hF⟩ := hF
      refine j_callv [.int v7] [] E w_RX11_63 (hroom 0 2 (by decide) (by decide)) hAA (c11_beaten _ κ A _ _ _  he8) (fun _ h => h) (fun _ _ _ h _ _ => h) (fun _ h => j_recv E h hc rfl) rfl rfl (Nat.le_of_ble_eq_true rfl) d_c11_isAsPlayed_19 ⟨Nat.zero_le _, Nat.zero_le _⟩ ?_
      refine j_blk (pc' := 27) (lv' := [(0, .ref a0), (1, .int p1), (2, .int x2_2)]) (st' := [.int (x2_2 + (Int32.ofInt 1)), .int p1, .ref a0, .int v9]) E b_c11_isAsPlayed_22_5 rfl ?_
      replace hF := ocl_at hF
      obtain ⟨hc, hF⟩ := hF
      replace hF := obd_at hF
      obtain ⟨v11, he10, hF⟩ := hF
      refine j_callv [.int p1, .int (x2_2 + (Int32.ofInt 1))] [.int v9] E w_RX11_220 (hroom 0 3 (by decide) (by decide)) hAA (c11_told _ κ A _ _ _ _  he10) (fun _ h => h) (fun _ _ _ h _ _ => h) (fun _ h => j_recv E h hc rfl) rfl rfl (Nat.le_of_ble_eq_true rfl) d_c11_isAsPlayed_27 ⟨Nat.zero_le _, Nat.zero_le _⟩ ?_
      refine j_blk (pc' := 33) (lv' := [(0, .ref a0), (1, .int p1), (2, .int x2_2)]) (st' := [.int ((v9 >>> (v11 &&& 31)) &&& (Int32.ofInt 1))]) E b_c11_isAsPlayed_30_3 rfl ?_
      refine j_if_ne (tgt := 38) E d_c11_isAsPlayed_33 (by decide) (fun h12 => ?_) (fun h12 => ?_)
      · replace hF := g_f hF h12
        refine j_blk (pc' := 41) (lv' := [(2, .int (x2_2 + Int32.ofInt 2)), (0, .ref a0), (1, .int p1)]) (st' := []) E b_c11_isAsPlayed_38_1 rfl ?_
        refine j_goto (tgt := 2) E d_c11_isAsPlayed_41 (by decide) ?_
        refine j_lv [1, 2, 0] rfl ?_
        exact hI _ (g_inj hF)
      · replace hF := g_t hF h12
        refine j_blk (pc' := 37) (lv' := [(0, .ref a0), (1, .int p1), (2, .int x2_2)]) (st' := [.int (Int32.ofInt 0)]) E b_c11_isAsPlayed_36_1 rfl ?_
        have e : Int32.ofInt 0 = res := hO _ (g_inj hF)
        subst e
        exact j_zret E hQ nb_0 d_c11_isAsPlayed_37 (fun _ h => h)
  refine lpo1 FU (Int32.ofInt 0) o1 ho1 ?_
  rcases o1 with o1 | o1
  · exact (g_inj hF).symm
  · skip
    show J Γ 3 (HS κ A s0) 0 0 44 [] []
    refine j_blk (pc' := 45) (lv' := []) (st' := [.int (Int32.ofInt 1)]) E b_c11_isAsPlayed_44_1 rfl ?_
    have e : res = Int32.ofInt 1 := g_inj hF
    subst e
    exact j_zret E hQ nb_1 d_c11_isAsPlayed_45 (fun _ h => h)
theorem b_c11_image_0_1 : bdec cX11_image 0 [.aload_n 0] = true := by decide +kernel
theorem d_c11_image_1 : decode cX11_image 1 = .ok (.getfield 9, 3) := by decide +kernel
theorem b_c11_image_4_1 : bdec cX11_image 4 [.aload_n 0] = true := by decide +kernel
theorem d_c11_image_5 : decode cX11_image 5 = .ok (.getfield 13, 3) := by decide +kernel
theorem d_c11_image_8 : decode cX11_image 8 = .ok (.invokestatic 59, 3) := by decide +kernel
theorem b_c11_image_11_2 : bdec cX11_image 11 [.aload_n 0, .iconst 1] = true := by decide +kernel
theorem d_c11_image_13 : decode cX11_image 13 = .ok (.putfield 240, 3) := by decide +kernel
theorem b_c11_image_16_1 : bdec cX11_image 16 [.aload_n 0] = true := by decide +kernel
theorem d_c11_image_17 : decode cX11_image 17 = .ok (.getfield 9, 3) := by decide +kernel
theorem b_c11_image_20_1 : bdec cX11_image 20 [.iconst 0] = true := by decide +kernel
theorem d_c11_image_21 : decode cX11_image 21 = .ok (.iaload, 1) := by decide +kernel
theorem d_c11_image_22 : decode cX11_image 22 = .ok (.ireturn, 1) := by decide +kernel
def f11_image (s0 : HM) (a0 : Nat) : Option (Int32 × HM) := obd (hfld s0 [11] 0 a0) (fun v1 => obd (hfld s0 [11] 1 a0) (fun v2 => orf v2 (fun b3 => orf v1 (fun b4 => obd (f11_lays s0 b4 b3) (fun s6 => obd (hput s6 [11] 10 a0 (.int (Int32.ofInt 1))) (fun s7 => obd (hfld s7 [11] 0 a0) (fun v8 => orf v8 (fun b9 => obd (hald s7 b9 (Int32.ofInt 0)) (fun v10 => some (v10, s7))))))))))
set_option maxRecDepth 100000 in
set_option maxHeartbeats 4000000 in
theorem c11_image (l : Launch) (κ : KP) (A : Nat → Prop) (s0 : HM) (a0 : Nat) {res : Int32 × HM} (hF : f11_image s0 a0 = some res) : Met l yX11_image (Cond.code yX11_image cX11_image 1 (some .int) :: WT) (rmL 1 0 0) (PP κ A [.ref a0] (HS κ A s0)) (QQ (some (.int res.1)) (HS κ A res.2) A) 0 0 A := by
  refine met_of (own := RX11) (by decide) rfl (Nat.le_of_ble_eq_true rfl) ?_
  intro Γ E hQ hL hR hA hent hini
  have hAA : ∀ q, A q → jA Γ q := fun q h => by rw [hA]; exact h
  have hroom : ∀ (d mL : Nat) {mc ms : Nat}, d < 1 → mL ≤ 21 → (rmL d mc ms).frames + 1 ≤ (jR Γ).frames ∧ 8 + (mL + 11) + (rmL d mc ms).locals ≤ (jR Γ).locals := fun d mL mc ms h1 h2 => by rw [hR]; exact rmL_le h1 h2
  show J Γ 1 (HS κ A s0) 0 0 0 [(0, .ref a0)] []
  unfold f11_image at hF
  refine j_blk (pc' := 1) (lv' := [(0, .ref a0)]) (st' := [.ref a0]) E b_c11_image_0_1 rfl ?_
  replace hF := obd_at hF
  obtain ⟨v1, ev1, hF⟩ := hF
  refine j_getf E fg_RX11_9 d_c11_image_1 ev1 ?_
  refine j_blk (pc' := 5) (lv' := [(0, .ref a0)]) (st' := [.ref a0, v1]) E b_c11_image_4_1 rfl ?_
  replace hF := obd_at hF
  obtain ⟨v2, ev2, hF⟩ := hF
  refine j_getf E fg_RX11_13 d_c11_image_5 ev2 ?_
  replace hF := orf_at hF
  obtain ⟨b3, rfl, hF⟩ := hF
  replace hF := orf_at hF
  obtain ⟨b4, rfl, hF⟩ := hF
  replace hF := obd_at hF
  obtain ⟨s6, he5, hF⟩ := hF
  refine j_calls [.ref b4, .ref b3] [] E w_RX11_59 (hroom 0 3 (by decide) (by decide)) hAA (c11_lays _ κ A _ _ _  he5) (fun _ h => h) (fun _ _ _ h _ _ => h) rfl rfl (Nat.le_of_ble_eq_true rfl) d_c11_image_8 ⟨Nat.zero_le _, Nat.zero_le _⟩ ?_
  refine j_blk (pc' := 13) (lv' := [(0, .ref a0)]) (st' := [.int (Int32.ofInt 1), .ref a0]) E b_c11_image_11_2 rfl ?_
  replace hF := obd_at hF
  obtain ⟨s7, es7, hF⟩ := hF
  refine j_put E fp_RX11_240 d_c11_image_13 nb_1 fb_1 es7 hAA ?_
  refine j_blk (pc' := 17) (lv' := [(0, .ref a0)]) (st' := [.ref a0]) E b_c11_image_16_1 rfl ?_
  replace hF := obd_at hF
  obtain ⟨v8, ev8, hF⟩ := hF
  refine j_getf E fg_RX11_9 d_c11_image_17 ev8 ?_
  refine j_blk (pc' := 21) (lv' := [(0, .ref a0)]) (st' := [.int (Int32.ofInt 0), v8]) E b_c11_image_20_1 rfl ?_
  replace hF := orf_at hF
  obtain ⟨b9, rfl, hF⟩ := hF
  replace hF := obd_at hF
  obtain ⟨v10, ev10, hF⟩ := hF
  refine j_iald E d_c11_image_21 ev10 ?_
  have e : res = (v10, s7) := g_inj hF
  subst e
  exact j_iret E hQ d_c11_image_22 (fun _ h => h)
theorem b_c11_restore_0_1 : bdec cX11_restore 0 [.aload_n 0] = true := by decide +kernel
theorem d_c11_restore_1 : decode cX11_restore 1 = .ok (.getfield 240, 3) := by decide +kernel
theorem d_c11_restore_4 : decode cX11_restore 4 = .ok (.ifCond .ne 6, 3) := by decide +kernel
theorem b_c11_restore_10_1 : bdec cX11_restore 10 [.aload_n 0] = true := by decide +kernel
theorem d_c11_restore_11 : decode cX11_restore 11 = .ok (.getfield 13, 3) := by decide +kernel
theorem b_c11_restore_14_1 : bdec cX11_restore 14 [.aload_n 0] = true := by decide +kernel
theorem d_c11_restore_15 : decode cX11_restore 15 = .ok (.getfield 9, 3) := by decide +kernel
theorem d_c11_restore_18 : decode cX11_restore 18 = .ok (.invokestatic 59, 3) := by decide +kernel
theorem b_c11_restore_21_1 : bdec cX11_restore 21 [.aload_n 0] = true := by decide +kernel
theorem d_c11_restore_22 : decode cX11_restore 22 = .ok (.getfield 9, 3) := by decide +kernel
theorem b_c11_restore_25_1 : bdec cX11_restore 25 [.iconst 0] = true := by decide +kernel
theorem d_c11_restore_26 : decode cX11_restore 26 = .ok (.iaload, 1) := by decide +kernel
theorem d_c11_restore_27 : decode cX11_restore 27 = .ok (.ireturn, 1) := by decide +kernel
theorem b_c11_restore_7_1 : bdec cX11_restore 7 [.bipush (-3)] = true := by decide +kernel
theorem d_c11_restore_9 : decode cX11_restore 9 = .ok (.ireturn, 1) := by decide +kernel
def f11_restore (s0 : HM) (a0 : Nat) : Option (Int32 × HM) := obd (hfi s0 [11] 10 a0) (fun v1 => if v1 = 0 then (some ((Int8.ofInt (-3)).toInt32, s0)) else (obd (hfld s0 [11] 1 a0) (fun v3 => obd (hfld s0 [11] 0 a0) (fun v4 => orf v4 (fun b5 => orf v3 (fun b6 => obd (f11_lays s0 b6 b5) (fun s8 => obd (hfld s8 [11] 0 a0) (fun v9 => orf v9 (fun b10 => obd (hald s8 b10 (Int32.ofInt 0)) (fun v11 => some (v11, s8)))))))))))
set_option maxRecDepth 100000 in
set_option maxHeartbeats 4000000 in
theorem c11_restore (l : Launch) (κ : KP) (A : Nat → Prop) (s0 : HM) (a0 : Nat) {res : Int32 × HM} (hF : f11_restore s0 a0 = some res) : Met l yX11_restore (Cond.code yX11_restore cX11_restore 1 (some .int) :: WT) (rmL 1 0 0) (PP κ A [.ref a0] (HS κ A s0)) (QQ (some (.int res.1)) (HS κ A res.2) A) 0 0 A := by
  refine met_of (own := RX11) (by decide) rfl (Nat.le_of_ble_eq_true rfl) ?_
  intro Γ E hQ hL hR hA hent hini
  have hAA : ∀ q, A q → jA Γ q := fun q h => by rw [hA]; exact h
  have hroom : ∀ (d mL : Nat) {mc ms : Nat}, d < 1 → mL ≤ 21 → (rmL d mc ms).frames + 1 ≤ (jR Γ).frames ∧ 8 + (mL + 11) + (rmL d mc ms).locals ≤ (jR Γ).locals := fun d mL mc ms h1 h2 => by rw [hR]; exact rmL_le h1 h2
  show J Γ 1 (HS κ A s0) 0 0 0 [(0, .ref a0)] []
  unfold f11_restore at hF
  refine j_blk (pc' := 1) (lv' := [(0, .ref a0)]) (st' := [.ref a0]) E b_c11_restore_0_1 rfl ?_
  replace hF := obd_at hF
  obtain ⟨v1, ev1, hF⟩ := hF
  refine j_getI E fg_RX11_240 d_c11_restore_1 ev1 ?_
  refine j_if_ne (tgt := 10) E d_c11_restore_4 (by decide) (fun h2 => ?_) (fun h2 => ?_)
  · replace hF := g_f hF h2
    refine j_blk (pc' := 11) (lv' := [(0, .ref a0)]) (st' := [.ref a0]) E b_c11_restore_10_1 rfl ?_
    replace hF := obd_at hF
    obtain ⟨v3, ev3, hF⟩ := hF
    refine j_getf E fg_RX11_13 d_c11_restore_11 ev3 ?_
    refine j_blk (pc' := 15) (lv' := [(0, .ref a0)]) (st' := [.ref a0, v3]) E b_c11_restore_14_1 rfl ?_
    replace hF := obd_at hF
    obtain ⟨v4, ev4, hF⟩ := hF
    refine j_getf E fg_RX11_9 d_c11_restore_15 ev4 ?_
    replace hF := orf_at hF
    obtain ⟨b5, rfl, hF⟩ := hF
    replace hF := orf_at hF
    obtain ⟨b6, rfl, hF⟩ := hF
    replace hF := obd_at hF
    obtain ⟨s8, he7, hF⟩ := hF
    refine j_calls [.ref b6, .ref b5] [] E w_RX11_59 (hroom 0 3 (by decide) (by decide)) hAA (c11_lays _ κ A _ _ _  he7) (fun _ h => h) (fun _ _ _ h _ _ => h) rfl rfl (Nat.le_of_ble_eq_true rfl) d_c11_restore_18 ⟨Nat.zero_le _, Nat.zero_le _⟩ ?_
    refine j_blk (pc' := 22) (lv' := [(0, .ref a0)]) (st' := [.ref a0]) E b_c11_restore_21_1 rfl ?_
    replace hF := obd_at hF
    obtain ⟨v9, ev9, hF⟩ := hF
    refine j_getf E fg_RX11_9 d_c11_restore_22 ev9 ?_
    refine j_blk (pc' := 26) (lv' := [(0, .ref a0)]) (st' := [.int (Int32.ofInt 0), v9]) E b_c11_restore_25_1 rfl ?_
    replace hF := orf_at hF
    obtain ⟨b10, rfl, hF⟩ := hF
    replace hF := obd_at hF
    obtain ⟨v11, ev11, hF⟩ := hF
    refine j_iald E d_c11_restore_26 ev11 ?_
    have e : res = (v11, s8) := g_inj hF
    subst e
    exact j_iret E hQ d_c11_restore_27 (fun _ h => h)
  · replace hF := g_t hF h2
    refine j_blk (pc' := 9) (lv' := [(0, .ref a0)]) (st' := [.int ((Int8.ofInt (-3)).toInt32)]) E b_c11_restore_7_1 rfl ?_
    have e : res = ((Int8.ofInt (-3)).toInt32, s0) := g_inj hF
    subst e
    exact j_iret E hQ d_c11_restore_9 (fun _ h => h)
theorem b_c11_areTwo_0_2 : bdec cX11_areTwo 0 [.aload_n 0, .iload_n 1] = true := by decide +kernel
theorem d_c11_areTwo_2 : decode cX11_areTwo 2 = .ok (.invokevirtual 55, 3) := by decide +kernel
theorem d_c11_areTwo_5 : decode cX11_areTwo 5 = .ok (.ifCond .eq 20, 3) := by decide +kernel
theorem b_c11_areTwo_25_1 : bdec cX11_areTwo 25 [.iconst 0] = true := by decide +kernel
theorem d_c11_areTwo_26 : decode cX11_areTwo 26 = .ok (.ireturn, 1) := by decide +kernel
theorem b_c11_areTwo_8_2 : bdec cX11_areTwo 8 [.aload_n 0, .iload_n 2] = true := by decide +kernel
theorem d_c11_areTwo_10 : decode cX11_areTwo 10 = .ok (.invokevirtual 55, 3) := by decide +kernel
theorem d_c11_areTwo_13 : decode cX11_areTwo 13 = .ok (.ifCond .eq 12, 3) := by decide +kernel
theorem b_c11_areTwo_16_2 : bdec cX11_areTwo 16 [.iload_n 1, .iload_n 2] = true := by decide +kernel
theorem d_c11_areTwo_18 : decode cX11_areTwo 18 = .ok (.if_icmp .eq 7, 3) := by decide +kernel
theorem b_c11_areTwo_21_1 : bdec cX11_areTwo 21 [.iconst 1] = true := by decide +kernel
theorem d_c11_areTwo_22 : decode cX11_areTwo 22 = .ok (.goto 4, 3) := by decide +kernel
def f11_areTwo (s0 : HM) (a0 : Nat) (p1 : Int32) (p2 : Int32) : Option (Int32) := ocl s0 a0 11 (obd (f11_isOne s0 a0 p1) (fun v2 => if v2 = 0 then (some (Int32.ofInt 0)) else (ocl s0 a0 11 (obd (f11_isOne s0 a0 p2) (fun v5 => if v5 = 0 then (some (Int32.ofInt 0)) else (if p1 = p2 then (some (Int32.ofInt 0)) else (some (Int32.ofInt 1))))))))
set_option maxRecDepth 100000 in
set_option maxHeartbeats 4000000 in
theorem c11_areTwo (l : Launch) (κ : KP) (A : Nat → Prop) (s0 : HM) (a0 : Nat) (p1 : Int32) (p2 : Int32) {res : Int32} (hF : f11_areTwo s0 a0 p1 p2 = some res) : Met l yX11_areTwo (Cond.code yX11_areTwo cX11_areTwo 3 (some .boolean) :: WT) (rmL 2 0 0) (PP κ A [.ref a0, .int p1, .int p2] (HS κ A s0)) (QQ (some (.int res)) (HS κ A s0) A) 0 0 A := by
  refine met_of (own := RX11) (by decide) rfl (Nat.le_of_ble_eq_true rfl) ?_
  intro Γ E hQ hL hR hA hent hini
  have hAA : ∀ q, A q → jA Γ q := fun q h => by rw [hA]; exact h
  have hroom : ∀ (d mL : Nat) {mc ms : Nat}, d < 2 → mL ≤ 21 → (rmL d mc ms).frames + 1 ≤ (jR Γ).frames ∧ 8 + (mL + 11) + (rmL d mc ms).locals ≤ (jR Γ).locals := fun d mL mc ms h1 h2 => by rw [hR]; exact rmL_le h1 h2
  show J Γ 3 (HS κ A s0) 0 0 0 [(0, .ref a0), (1, .int p1), (2, .int p2)] []
  unfold f11_areTwo at hF
  refine j_blk (pc' := 2) (lv' := [(0, .ref a0), (1, .int p1), (2, .int p2)]) (st' := [.int p1, .ref a0]) E b_c11_areTwo_0_2 rfl ?_
  replace hF := ocl_at hF
  obtain ⟨hc, hF⟩ := hF
  replace hF := obd_at hF
  obtain ⟨v2, he1, hF⟩ := hF
  refine j_callv [.int p1] [] E w_RX11_55 (hroom 1 2 (by decide) (by decide)) hAA (c11_isOne _ κ A _ _ _  he1) (fun _ h => h) (fun _ _ _ h _ _ => h) (fun _ h => j_recv E h hc rfl) rfl rfl (Nat.le_of_ble_eq_true rfl) d_c11_areTwo_2 ⟨Nat.zero_le _, Nat.zero_le _⟩ ?_
  refine j_if_eq (tgt := 25) E d_c11_areTwo_5 (by decide) (fun h3 => ?_) (fun h3 => ?_)
  · replace hF := g_t hF h3
    refine j_blk (pc' := 26) (lv' := [(0, .ref a0), (1, .int p1), (2, .int p2)]) (st' := [.int (Int32.ofInt 0)]) E b_c11_areTwo_25_1 rfl ?_
    have e : res = Int32.ofInt 0 := g_inj hF
    subst e
    exact j_zret E hQ nb_0 d_c11_areTwo_26 (fun _ h => h)
  · replace hF := g_f hF h3
    refine j_blk (pc' := 10) (lv' := [(0, .ref a0), (1, .int p1), (2, .int p2)]) (st' := [.int p2, .ref a0]) E b_c11_areTwo_8_2 rfl ?_
    replace hF := ocl_at hF
    obtain ⟨hc, hF⟩ := hF
    replace hF := obd_at hF
    obtain ⟨v5, he4, hF⟩ := hF
    refine j_callv [.int p2] [] E w_RX11_55 (hroom 1 2 (by decide) (by decide)) hAA (c11_isOne _ κ A _ _ _  he4) (fun _ h => h) (fun _ _ _ h _ _ => h) (fun _ h => j_recv E h hc rfl) rfl rfl (Nat.le_of_ble_eq_true rfl) d_c11_areTwo_10 ⟨Nat.zero_le _, Nat.zero_le _⟩ ?_
    refine j_if_eq (tgt := 25) E d_c11_areTwo_13 (by decide) (fun h6 => ?_) (fun h6 => ?_)
    · replace hF := g_t hF h6
      refine j_blk (pc' := 26) (lv' := [(0, .ref a0), (1, .int p1), (2, .int p2)]) (st' := [.int (Int32.ofInt 0)]) E b_c11_areTwo_25_1 rfl ?_
      have e : res = Int32.ofInt 0 := g_inj hF
      subst e
      exact j_zret E hQ nb_0 d_c11_areTwo_26 (fun _ h => h)
    · replace hF := g_f hF h6
      refine j_blk (pc' := 18) (lv' := [(0, .ref a0), (1, .int p1), (2, .int p2)]) (st' := [.int p2, .int p1]) E b_c11_areTwo_16_2 rfl ?_
      refine j_icmp_eq (tgt := 25) E d_c11_areTwo_18 (by decide) (fun h7 => ?_) (fun h7 => ?_)
      · replace hF := g_t hF h7
        refine j_blk (pc' := 26) (lv' := [(0, .ref a0), (1, .int p1), (2, .int p2)]) (st' := [.int (Int32.ofInt 0)]) E b_c11_areTwo_25_1 rfl ?_
        have e : res = Int32.ofInt 0 := g_inj hF
        subst e
        exact j_zret E hQ nb_0 d_c11_areTwo_26 (fun _ h => h)
      · replace hF := g_f hF h7
        refine j_blk (pc' := 22) (lv' := [(0, .ref a0), (1, .int p1), (2, .int p2)]) (st' := [.int (Int32.ofInt 1)]) E b_c11_areTwo_21_1 rfl ?_
        refine j_goto (tgt := 26) E d_c11_areTwo_22 (by decide) ?_
        have e : res = Int32.ofInt 1 := g_inj hF
        subst e
        exact j_zret E hQ nb_1 d_c11_areTwo_26 (fun _ h => h)
theorem b_c11_turns_0_2 : bdec cX11_turns 0 [.aload_n 0, .iload_n 1] = true := by decide +kernel
theorem d_c11_turns_2 : decode cX11_turns 2 = .ok (.invokevirtual 63, 3) := by decide +kernel
theorem b_c11_turns_5_5 : bdec cX11_turns 5 [.iload_n 2, .ishr, .iconst 1, .iand, .iconst 1] = true := by decide +kernel
theorem d_c11_turns_10 : decode cX11_turns 10 = .ok (.if_icmp .ne 12, 3) := by decide +kernel
theorem b_c11_turns_22_3 : bdec cX11_turns 22 [.aload_n 0, .iload_n 1, .iload_n 2] = true := by decide +kernel
theorem d_c11_turns_25 : decode cX11_turns 25 = .ok (.invokevirtual 84, 3) := by decide +kernel
theorem d_c11_turns_28 : decode cX11_turns 28 = .ok (.return_, 1) := by decide +kernel
theorem b_c11_turns_13_3 : bdec cX11_turns 13 [.aload_n 0, .iload_n 2, .iload_n 1] = true := by decide +kernel
theorem d_c11_turns_16 : decode cX11_turns 16 = .ok (.invokevirtual 84, 3) := by decide +kernel
theorem d_c11_turns_19 : decode cX11_turns 19 = .ok (.goto 9, 3) := by decide +kernel
def f11_turns (s0 : HM) (a0 : Nat) (p1 : Int32) (p2 : Int32) : Option (HM) := ocl s0 a0 11 (obd (f11_beaten s0 a0 p1) (fun v2 => if ((v2 >>> (p2 &&& 31)) &&& (Int32.ofInt 1)) = (Int32.ofInt 1) then (ocl s0 a0 11 (obd (f11_beats s0 a0 p2 p1) (fun s7 => some s7))) else (ocl s0 a0 11 (obd (f11_beats s0 a0 p1 p2) (fun s5 => some s5)))))
set_option maxRecDepth 100000 in
set_option maxHeartbeats 4000000 in
theorem c11_turns (l : Launch) (κ : KP) (A : Nat → Prop) (s0 : HM) (a0 : Nat) (p1 : Int32) (p2 : Int32) {res : HM} (hF : f11_turns s0 a0 p1 p2 = some res) : Met l yX11_turns (Cond.code yX11_turns cX11_turns 3 none :: WT) (rmL 2 0 0) (PP κ A [.ref a0, .int p1, .int p2] (HS κ A s0)) (QQ none (HS κ A res) A) 0 0 A := by
  refine met_of (own := RX11) (by decide) rfl (Nat.le_of_ble_eq_true rfl) ?_
  intro Γ E hQ hL hR hA hent hini
  have hAA : ∀ q, A q → jA Γ q := fun q h => by rw [hA]; exact h
  have hroom : ∀ (d mL : Nat) {mc ms : Nat}, d < 2 → mL ≤ 21 → (rmL d mc ms).frames + 1 ≤ (jR Γ).frames ∧ 8 + (mL + 11) + (rmL d mc ms).locals ≤ (jR Γ).locals := fun d mL mc ms h1 h2 => by rw [hR]; exact rmL_le h1 h2
  show J Γ 3 (HS κ A s0) 0 0 0 [(0, .ref a0), (1, .int p1), (2, .int p2)] []
  unfold f11_turns at hF
  refine j_blk (pc' := 2) (lv' := [(0, .ref a0), (1, .int p1), (2, .int p2)]) (st' := [.int p1, .ref a0]) E b_c11_turns_0_2 rfl ?_
  replace hF := ocl_at hF
  obtain ⟨hc, hF⟩ := hF
  replace hF := obd_at hF
  obtain ⟨v2, he1, hF⟩ := hF
  refine j_callv [.int p1] [] E w_RX11_63 (hroom 0 2 (by decide) (by decide)) hAA (c11_beaten _ κ A _ _ _  he1) (fun _ h => h) (fun _ _ _ h _ _ => h) (fun _ h => j_recv E h hc rfl) rfl rfl (Nat.le_of_ble_eq_true rfl) d_c11_turns_2 ⟨Nat.zero_le _, Nat.zero_le _⟩ ?_
  refine j_blk (pc' := 10) (lv' := [(0, .ref a0), (1, .int p1), (2, .int p2)]) (st' := [.int (Int32.ofInt 1), .int ((v2 >>> (p2 &&& 31)) &&& (Int32.ofInt 1))]) E b_c11_turns_5_5 rfl ?_
  refine j_icmp_ne (tgt := 22) E d_c11_turns_10 (by decide) (fun h3 => ?_) (fun h3 => ?_)
  · replace hF := g_f hF h3
    refine j_blk (pc' := 25) (lv' := [(0, .ref a0), (1, .int p1), (2, .int p2)]) (st' := [.int p2, .int p1, .ref a0]) E b_c11_turns_22_3 rfl ?_
    replace hF := ocl_at hF
    obtain ⟨hc, hF⟩ := hF
    replace hF := obd_at hF
    obtain ⟨s5, he4, hF⟩ := hF
    refine j_callv [.int p1, .int p2] [] E w_RX11_84 (hroom 1 3 (by decide) (by decide)) hAA (c11_beats _ κ A _ _ _ _  he4) (fun _ h => h) (fun _ _ _ h _ _ => h) (fun _ h => j_recv E h hc rfl) rfl rfl (Nat.le_of_ble_eq_true rfl) d_c11_turns_25 ⟨Nat.zero_le _, Nat.zero_le _⟩ ?_
    have e : res = s5 := g_inj hF
    subst e
    exact j_vret E hQ d_c11_turns_28 (fun _ h => h)
  · replace hF := g_t hF h3
    refine j_blk (pc' := 16) (lv' := [(0, .ref a0), (1, .int p1), (2, .int p2)]) (st' := [.int p1, .int p2, .ref a0]) E b_c11_turns_13_3 rfl ?_
    replace hF := ocl_at hF
    obtain ⟨hc, hF⟩ := hF
    replace hF := obd_at hF
    obtain ⟨s7, he6, hF⟩ := hF
    refine j_callv [.int p2, .int p1] [] E w_RX11_84 (hroom 1 3 (by decide) (by decide)) hAA (c11_beats _ κ A _ _ _ _  he6) (fun _ h => h) (fun _ _ _ h _ _ => h) (fun _ h => j_recv E h hc rfl) rfl rfl (Nat.le_of_ble_eq_true rfl) d_c11_turns_16 ⟨Nat.zero_le _, Nat.zero_le _⟩ ?_
    refine j_goto (tgt := 28) E d_c11_turns_19 (by decide) ?_
    have e : res = s7 := g_inj hF
    subst e
    exact j_vret E hQ d_c11_turns_28 (fun _ h => h)
theorem b_c11_mastersOf_0_4 : bdec cX11_mastersOf 0 [.iconst 0, .istore_n 2, .iconst 0, .istore_n 3] = true := by decide +kernel
theorem b_c11_mastersOf_4_2 : bdec cX11_mastersOf 4 [.iload_n 3, .aload_n 0] = true := by decide +kernel
theorem d_c11_mastersOf_6 : decode cX11_mastersOf 6 = .ok (.getfield 9, 3) := by decide +kernel
theorem b_c11_mastersOf_9_1 : bdec cX11_mastersOf 9 [.iconst 0] = true := by decide +kernel
theorem d_c11_mastersOf_10 : decode cX11_mastersOf 10 = .ok (.iaload, 1) := by decide +kernel
theorem d_c11_mastersOf_11 : decode cX11_mastersOf 11 = .ok (.if_icmp .ge 34, 3) := by decide +kernel
theorem b_c11_mastersOf_14_2 : bdec cX11_mastersOf 14 [.aload_n 0, .iload_n 3] = true := by decide +kernel
theorem d_c11_mastersOf_16 : decode cX11_mastersOf 16 = .ok (.invokevirtual 63, 3) := by decide +kernel
theorem b_c11_mastersOf_19_3 : bdec cX11_mastersOf 19 [.iload_n 1, .iand, .iload_n 1] = true := by decide +kernel
theorem d_c11_mastersOf_22 : decode cX11_mastersOf 22 = .ok (.if_icmp .ne 17, 3) := by decide +kernel
theorem b_c11_mastersOf_39_1 : bdec cX11_mastersOf 39 [.iinc 3 1] = true := by decide +kernel
theorem d_c11_mastersOf_42 : decode cX11_mastersOf 42 = .ok (.goto (-38), 3) := by decide +kernel
theorem b_c11_mastersOf_25_2 : bdec cX11_mastersOf 25 [.aload_n 0, .iload_n 3] = true := by decide +kernel
theorem d_c11_mastersOf_27 : decode cX11_mastersOf 27 = .ok (.invokevirtual 88, 3) := by decide +kernel
theorem d_c11_mastersOf_30 : decode cX11_mastersOf 30 = .ok (.ifCond .eq 9, 3) := by decide +kernel
theorem b_c11_mastersOf_33_7 : bdec cX11_mastersOf 33 [.iload_n 2, .iconst 1, .iload_n 3, .ishl, .ior, .istore_n 2, .iinc 3 1] = true := by decide +kernel
theorem b_c11_mastersOf_45_1 : bdec cX11_mastersOf 45 [.iload_n 2] = true := by decide +kernel
theorem d_c11_mastersOf_46 : decode cX11_mastersOf 46 = .ok (.ireturn, 1) := by decide +kernel
def f11_mastersOf_L4 (s0 : HM) (a0 : Nat) (p1 : Int32) (w : Int32 × Int32) : Option ((Int32 × Int32) ⊕ (Int32)) := match w with
  | (x4_2, x4_3) => obd (hfld s0 [11] 0 a0) (fun v2 => orf v2 (fun b3 => obd (hald s0 b3 (Int32.ofInt 0)) (fun v4 => if v4 ≤ x4_3 then (some (.inr x4_2)) else (ocl s0 a0 11 (obd (f11_beaten s0 a0 x4_3) (fun v7 => if (v7 &&& p1) = p1 then (ocl s0 a0 11 (obd (f11_counts s0 a0 x4_3) (fun v10 => if v10 = 0 then (some (.inl (x4_2, x4_3 + Int32.ofInt 1))) else (some (.inl (x4_2 ||| ((Int32.ofInt 1) <<< (x4_3 &&& 31)), x4_3 + Int32.ofInt 1)))))) else (some (.inl (x4_2, x4_3 + Int32.ofInt 1)))))))))
def f11_mastersOf (s0 : HM) (a0 : Nat) (p1 : Int32) : Option (Int32) := obd (iter (f11_mastersOf_L4 s0 a0 p1) FU (Int32.ofInt 0, Int32.ofInt 0)) (fun o1 => match o1 with | e4_2 => some e4_2)
set_option maxRecDepth 100000 in
set_option maxHeartbeats 4000000 in
theorem c11_mastersOf (l : Launch) (κ : KP) (A : Nat → Prop) (s0 : HM) (a0 : Nat) (p1 : Int32) {res : Int32} (hF : f11_mastersOf s0 a0 p1 = some res) : Met l yX11_mastersOf (Cond.code yX11_mastersOf cX11_mastersOf 4 (some .int) :: WT) (rmL 2 0 0) (PP κ A [.ref a0, .int p1] (HS κ A s0)) (QQ (some (.int res)) (HS κ A s0) A) 0 0 A := by
  refine met_of (own := RX11) (by decide) rfl (Nat.le_of_ble_eq_true rfl) ?_
  intro Γ E hQ hL hR hA hent hini
  have hAA : ∀ q, A q → jA Γ q := fun q h => by rw [hA]; exact h
  have hroom : ∀ (d mL : Nat) {mc ms : Nat}, d < 2 → mL ≤ 21 → (rmL d mc ms).frames + 1 ≤ (jR Γ).frames ∧ 8 + (mL + 11) + (rmL d mc ms).locals ≤ (jR Γ).locals := fun d mL mc ms h1 h2 => by rw [hR]; exact rmL_le h1 h2
  show J Γ 4 (HS κ A s0) 0 0 0 [(0, .ref a0), (1, .int p1)] []
  unfold f11_mastersOf at hF
  refine j_blk (pc' := 4) (lv' := [(3, .int (Int32.ofInt 0)), (2, .int (Int32.ofInt 0)), (0, .ref a0), (1, .int p1)]) (st' := []) E b_c11_mastersOf_0_4 rfl ?_
  refine j_lv [2, 3, 1, 0] rfl ?_
  replace hF := obd_at hF
  obtain ⟨o1, ho1, hF⟩ := hF
  have lpo1 : ∀ (fu : Nat) (w : Int32 × Int32) (o : Int32), iter (f11_mastersOf_L4 s0 a0 p1) fu w = some o → (fun (o : Int32) => J Γ 4 (HS κ A s0) 0 0 45 [(2, .int o)] []) o → (fun (w : Int32 × Int32) => J Γ 4 (HS κ A s0) 0 0 4 [(0, .ref a0), (1, .int p1), (2, .int w.1), (3, .int w.2)] []) w := by
    refine j_iter (P := fun (w : Int32 × Int32) => J Γ 4 (HS κ A s0) 0 0 4 [(0, .ref a0), (1, .int p1), (2, .int w.1), (3, .int w.2)] []) (G := fun (o : Int32) => J Γ 4 (HS κ A s0) 0 0 45 [(2, .int o)] []) ?_
    rintro ⟨x4_2, x4_3⟩ q hF hI hO
    show J Γ 4 (HS κ A s0) 0 0 4 [(0, .ref a0), (1, .int p1), (2, .int x4_2), (3, .int x4_3)] []
    unfold f11_mastersOf_L4 at hF
    refine j_blk (pc' := 6) (lv' := [(0, .ref a0), (1, .int p1), (2, .int x4_2), (3, .int x4_3)]) (st' := [.ref a0, .int x4_3]) E b_c11_mastersOf_4_2 rfl ?_
    replace hF := obd_at hF
    obtain ⟨v2, ev2, hF⟩ := hF
    refine j_getf E fg_RX11_9 d_c11_mastersOf_6 ev2 ?_
    refine j_blk (pc' := 10) (lv' := [(0, .ref a0), (1, .int p1), (2, .int x4_2), (3, .int x4_3)]) (st' := [.int (Int32.ofInt 0), v2, .int x4_3]) E b_c11_mastersOf_9_1 rfl ?_
    replace hF := orf_at hF
    obtain ⟨b3, rfl, hF⟩ := hF
    replace hF := obd_at hF
    obtain ⟨v4, ev4, hF⟩ := hF
    refine j_iald E d_c11_mastersOf_10 ev4 ?_
    refine j_icmp_ge (tgt := 45) E d_c11_mastersOf_11 (by decide) (fun h5 => ?_) (fun h5 => ?_)
    · replace hF := g_t hF h5
      refine j_lv [2] rfl ?_
      exact hO _ (g_inj hF)
    · replace hF := g_f hF h5
      refine j_blk (pc' := 16) (lv' := [(0, .ref a0), (1, .int p1), (2, .int x4_2), (3, .int x4_3)]) (st' := [.int x4_3, .ref a0]) E b_c11_mastersOf_14_2 rfl ?_
      replace hF := ocl_at hF
      obtain ⟨hc, hF⟩ := hF
      replace hF := obd_at hF
      obtain ⟨v7, he6, hF⟩ := hF
      refine j_callv [.int x4_3] [] E w_RX11_63 (hroom 0 2 (by decide) (by decide)) hAA (c11_beaten _ κ A _ _ _  he6) (fun _ h => h) (fun _ _ _ h _ _ => h) (fun _ h => j_recv E h hc rfl) rfl rfl (Nat.le_of_ble_eq_true rfl) d_c11_mastersOf_16 ⟨Nat.zero_le _, Nat.zero_le _⟩ ?_
      refine j_blk (pc' := 22) (lv' := [(0, .ref a0), (1, .int p1), (2, .int x4_2), (3, .int x4_3)]) (st' := [.int p1, .int (v7 &&& p1)]) E b_c11_mastersOf_19_3 rfl ?_
      refine j_icmp_ne (tgt := 39) E d_c11_mastersOf_22 (by decide) (fun h8 => ?_) (fun h8 => ?_)
      · replace hF := g_f hF h8
        refine j_blk (pc' := 42) (lv' := [(3, .int (x4_3 + Int32.ofInt 1)), (0, .ref a0), (1, .int p1), (2, .int x4_2)]) (st' := []) E b_c11_mastersOf_39_1 rfl ?_
        refine j_goto (tgt := 4) E d_c11_mastersOf_42 (by decide) ?_
        refine j_lv [1, 2, 3, 0] rfl ?_
        exact hI _ (g_inj hF)
      · replace hF := g_t hF h8
        refine j_blk (pc' := 27) (lv' := [(0, .ref a0), (1, .int p1), (2, .int x4_2), (3, .int x4_3)]) (st' := [.int x4_3, .ref a0]) E b_c11_mastersOf_25_2 rfl ?_
        replace hF := ocl_at hF
        obtain ⟨hc, hF⟩ := hF
        replace hF := obd_at hF
        obtain ⟨v10, he9, hF⟩ := hF
        refine j_callv [.int x4_3] [] E w_RX11_88 (hroom 1 4 (by decide) (by decide)) hAA (c11_counts _ κ A _ _ _  he9) (fun _ h => h) (fun _ _ _ h _ _ => h) (fun _ h => j_recv E h hc rfl) rfl rfl (Nat.le_of_ble_eq_true rfl) d_c11_mastersOf_27 ⟨Nat.zero_le _, Nat.zero_le _⟩ ?_
        refine j_if_eq (tgt := 39) E d_c11_mastersOf_30 (by decide) (fun h11 => ?_) (fun h11 => ?_)
        · replace hF := g_t hF h11
          refine j_blk (pc' := 42) (lv' := [(3, .int (x4_3 + Int32.ofInt 1)), (0, .ref a0), (1, .int p1), (2, .int x4_2)]) (st' := []) E b_c11_mastersOf_39_1 rfl ?_
          refine j_goto (tgt := 4) E d_c11_mastersOf_42 (by decide) ?_
          refine j_lv [1, 2, 3, 0] rfl ?_
          exact hI _ (g_inj hF)
        · replace hF := g_f hF h11
          refine j_blk (pc' := 42) (lv' := [(3, .int (x4_3 + Int32.ofInt 1)), (2, .int (x4_2 ||| ((Int32.ofInt 1) <<< (x4_3 &&& 31)))), (0, .ref a0), (1, .int p1)]) (st' := []) E b_c11_mastersOf_33_7 rfl ?_
          refine j_goto (tgt := 4) E d_c11_mastersOf_42 (by decide) ?_
          refine j_lv [2, 3, 1, 0] rfl ?_
          exact hI _ (g_inj hF)
  refine lpo1 FU (Int32.ofInt 0, Int32.ofInt 0) o1 ho1 ?_
  obtain ⟨e4_2, rfl⟩ : ∃ z, z = o1 := ⟨_, rfl⟩
  show J Γ 4 (HS κ A s0) 0 0 45 [(2, .int e4_2)] []
  refine j_blk (pc' := 46) (lv' := [(2, .int e4_2)]) (st' := [.int e4_2]) E b_c11_mastersOf_45_1 rfl ?_
  have e : res = e4_2 := g_inj hF
  subst e
  exact j_iret E hQ d_c11_mastersOf_46 (fun _ h => h)
theorem b_c11_readsStatement_0_1 : bdec cX11_readsStatement 0 [.aload_n 0] = true := by decide +kernel
theorem d_c11_readsStatement_1 : decode cX11_readsStatement 1 = .ok (.invokevirtual 103, 3) := by decide +kernel
theorem b_c11_readsStatement_4_3 : bdec cX11_readsStatement 4 [.istore_n 1, .iload_n 1, .bipush 112] = true := by decide +kernel
theorem d_c11_readsStatement_8 : decode cX11_readsStatement 8 = .ok (.if_icmp .eq 9, 3) := by decide +kernel
theorem b_c11_readsStatement_42_2 : bdec cX11_readsStatement 42 [.istore_n 2, .iload_n 2] = true := by decide +kernel
theorem d_c11_readsStatement_44 : decode cX11_readsStatement 44 = .ok (.ifCond .ge 5, 3) := by decide +kernel
theorem b_c11_readsStatement_49_2 : bdec cX11_readsStatement 49 [.aload_n 0, .dup] = true := by decide +kernel
theorem d_c11_readsStatement_51 : decode cX11_readsStatement 51 = .ok (.getfield 94, 3) := by decide +kernel
theorem b_c11_readsStatement_54_2 : bdec cX11_readsStatement 54 [.iconst 1, .iadd] = true := by decide +kernel
theorem d_c11_readsStatement_56 : decode cX11_readsStatement 56 = .ok (.putfield 94, 3) := by decide +kernel
theorem b_c11_readsStatement_59_2 : bdec cX11_readsStatement 59 [.aload_n 0, .iload_n 2] = true := by decide +kernel
theorem d_c11_readsStatement_61 : decode cX11_readsStatement 61 = .ok (.invokevirtual 111, 3) := by decide +kernel
theorem d_c11_readsStatement_64 : decode cX11_readsStatement 64 = .ok (.ifCond .eq 12, 3) := by decide +kernel
theorem b_c11_readsStatement_76_1 : bdec cX11_readsStatement 76 [.iconst 0] = true := by decide +kernel
theorem d_c11_readsStatement_77 : decode cX11_readsStatement 77 = .ok (.ireturn, 1) := by decide +kernel
theorem b_c11_readsStatement_67_1 : bdec cX11_readsStatement 67 [.aload_n 0] = true := by decide +kernel
theorem d_c11_readsStatement_68 : decode cX11_readsStatement 68 = .ok (.invokevirtual 103, 3) := by decide +kernel
theorem b_c11_readsStatement_71_1 : bdec cX11_readsStatement 71 [.bipush 59] = true := by decide +kernel
theorem d_c11_readsStatement_73 : decode cX11_readsStatement 73 = .ok (.if_icmp .eq 5, 3) := by decide +kernel
theorem b_c11_readsStatement_78_2 : bdec cX11_readsStatement 78 [.aload_n 0, .dup] = true := by decide +kernel
theorem d_c11_readsStatement_80 : decode cX11_readsStatement 80 = .ok (.getfield 94, 3) := by decide +kernel
theorem b_c11_readsStatement_83_2 : bdec cX11_readsStatement 83 [.iconst 1, .iadd] = true := by decide +kernel
theorem d_c11_readsStatement_85 : decode cX11_readsStatement 85 = .ok (.putfield 94, 3) := by decide +kernel
theorem b_c11_readsStatement_88_1 : bdec cX11_readsStatement 88 [.iconst 1] = true := by decide +kernel
theorem d_c11_readsStatement_89 : decode cX11_readsStatement 89 = .ok (.ireturn, 1) := by decide +kernel
theorem b_c11_readsStatement_47_1 : bdec cX11_readsStatement 47 [.iconst 0] = true := by decide +kernel
theorem d_c11_readsStatement_48 : decode cX11_readsStatement 48 = .ok (.ireturn, 1) := by decide +kernel
theorem b_c11_readsStatement_17_1 : bdec cX11_readsStatement 17 [.iconst 2] = true := by decide +kernel
theorem d_c11_readsStatement_18 : decode cX11_readsStatement 18 = .ok (.goto 24, 3) := by decide +kernel
theorem b_c11_readsStatement_11_2 : bdec cX11_readsStatement 11 [.iload_n 1, .bipush 119] = true := by decide +kernel
theorem d_c11_readsStatement_14 : decode cX11_readsStatement 14 = .ok (.if_icmp .ne 7, 3) := by decide +kernel
theorem b_c11_readsStatement_21_2 : bdec cX11_readsStatement 21 [.iload_n 1, .bipush 108] = true := by decide +kernel
theorem d_c11_readsStatement_24 : decode cX11_readsStatement 24 = .ok (.if_icmp .ne 7, 3) := by decide +kernel
theorem b_c11_readsStatement_31_2 : bdec cX11_readsStatement 31 [.iload_n 1, .bipush 117] = true := by decide +kernel
theorem d_c11_readsStatement_34 : decode cX11_readsStatement 34 = .ok (.if_icmp .ne 7, 3) := by decide +kernel
theorem b_c11_readsStatement_41_1 : bdec cX11_readsStatement 41 [.iconst (-1)] = true := by decide +kernel
theorem b_c11_readsStatement_37_1 : bdec cX11_readsStatement 37 [.iconst 0] = true := by decide +kernel
theorem d_c11_readsStatement_38 : decode cX11_readsStatement 38 = .ok (.goto 4, 3) := by decide +kernel
theorem b_c11_readsStatement_27_1 : bdec cX11_readsStatement 27 [.iconst 1] = true := by decide +kernel
theorem d_c11_readsStatement_28 : decode cX11_readsStatement 28 = .ok (.goto 14, 3) := by decide +kernel
def f11_readsStatement_K42 (s0 : HM) (a0 : Nat) (k42_t0 : Int32) : Option (Int32 × HM) := if 0 ≤ k42_t0 then (obd (hfi s0 [11] 12 a0) (fun v4 => obd (hput s0 [11] 12 a0 (.int (v4 + (Int32.ofInt 1)))) (fun s5 => ocl s5 a0 11 (obd (f11_readsDigits s5 a0 k42_t0) (fun e6 => match e6 with | (v8, s7) => if v8 = 0 then (some (Int32.ofInt 0, s7)) else (ocl s7 a0 11 (obd (f11_here s7 a0) (fun v11 => if v11 = ((Int8.ofInt 59).toInt32) then (obd (hfi s7 [11] 12 a0) (fun v13 => obd (hput s7 [11] 12 a0 (.int (v13 + (Int32.ofInt 1)))) (fun s14 => some (Int32.ofInt 1, s14)))) else (some (Int32.ofInt 0, s7)))))))))) else (some (Int32.ofInt 0, s0))
def f11_readsStatement_K17 (s0 : HM) (a0 : Nat) : Option (Int32 × HM) := f11_readsStatement_K42 s0 a0 (Int32.ofInt 2)
def f11_readsStatement (s0 : HM) (a0 : Nat) : Option (Int32 × HM) := ocl s0 a0 11 (obd (f11_here s0 a0) (fun v2 => if v2 = ((Int8.ofInt 112).toInt32) then (f11_readsStatement_K17 s0 a0) else (if v2 = ((Int8.ofInt 119).toInt32) then (f11_readsStatement_K17 s0 a0) else (if v2 = ((Int8.ofInt 108).toInt32) then (f11_readsStatement_K42 s0 a0 (Int32.ofInt 1)) else (if v2 = ((Int8.ofInt 117).toInt32) then (f11_readsStatement_K42 s0 a0 (Int32.ofInt 0)) else (f11_readsStatement_K42 s0 a0 (Int32.ofInt (-1))))))))
set_option maxRecDepth 100000 in
set_option maxHeartbeats 4000000 in
theorem c11_readsStatement (l : Launch) (κ : KP) (A : Nat → Prop) (s0 : HM) (a0 : Nat) {res : Int32 × HM} (hF : f11_readsStatement s0 a0 = some res) : Met l yX11_readsStatement (Cond.code yX11_readsStatement cX11_readsStatement 3 (some .boolean) :: WT) (rmL 2 0 0) (PP κ A [.ref a0] (HS κ A s0)) (QQ (some (.int res.1)) (HS κ A res.2) A) 0 0 A := by
  refine met_of (own := RX11) (by decide) rfl (Nat.le_of_ble_eq_true rfl) ?_
  intro Γ E hQ hL hR hA hent hini
  have hAA : ∀ q, A q → jA Γ q := fun q h => by rw [hA]; exact h
  have hroom : ∀ (d mL : Nat) {mc ms : Nat}, d < 2 → mL ≤ 21 → (rmL d mc ms).frames + 1 ≤ (jR Γ).frames ∧ 8 + (mL + 11) + (rmL d mc ms).locals ≤ (jR Γ).locals := fun d mL mc ms h1 h2 => by rw [hR]; exact rmL_le h1 h2
  show J Γ 3 (HS κ A s0) 0 0 0 [(0, .ref a0)] []
  unfold f11_readsStatement at hF
  refine j_blk (pc' := 1) (lv' := [(0, .ref a0)]) (st' := [.ref a0]) E b_c11_readsStatement_0_1 rfl ?_
  replace hF := ocl_at hF
  obtain ⟨hc, hF⟩ := hF
  replace hF := obd_at hF
  obtain ⟨v2, he1, hF⟩ := hF
  refine j_callv [] [] E w_RX11_103 (hroom 0 1 (by decide) (by decide)) hAA (c11_here _ κ A _ _  he1) (fun _ h => h) (fun _ _ _ h _ _ => h) (fun _ h => j_recv E h hc rfl) rfl rfl (Nat.le_of_ble_eq_true rfl) d_c11_readsStatement_1 ⟨Nat.zero_le _, Nat.zero_le _⟩ ?_
  refine j_blk (pc' := 8) (lv' := [(1, .int v2), (0, .ref a0)]) (st' := [.int ((Int8.ofInt 112).toInt32), .int v2]) E b_c11_readsStatement_4_3 rfl ?_
  have kp42 : ∀ (k42_t0 : Int32), f11_readsStatement_K42 s0 a0 k42_t0 = some res → J Γ 3 (HS κ A s0) 0 0 42 [(0, .ref a0)] [.int k42_t0] := by
    intro k42_t0 hF
    unfold f11_readsStatement_K42 at hF
    refine j_blk (pc' := 44) (lv' := [(2, .int k42_t0), (0, .ref a0)]) (st' := [.int k42_t0]) E b_c11_readsStatement_42_2 rfl ?_
    refine j_if_ge (tgt := 49) E d_c11_readsStatement_44 (by decide) (fun h3 => ?_) (fun h3 => ?_)
    · replace hF := g_t hF h3
      refine j_blk (pc' := 51) (lv' := [(2, .int k42_t0), (0, .ref a0)]) (st' := [.ref a0, .ref a0]) E b_c11_readsStatement_49_2 rfl ?_
      replace hF := obd_at hF
      obtain ⟨v4, ev4, hF⟩ := hF
      refine j_getI E fg_RX11_94 d_c11_readsStatement_51 ev4 ?_
      refine j_blk (pc' := 56) (lv' := [(2, .int k42_t0), (0, .ref a0)]) (st' := [.int (v4 + (Int32.ofInt 1)), .ref a0]) E b_c11_readsStatement_54_2 rfl ?_
      replace hF := obd_at hF
      obtain ⟨s5, es5, hF⟩ := hF
      refine j_put E fp_RX11_94 d_c11_readsStatement_56 rfl rfl es5 hAA ?_
      refine j_blk (pc' := 61) (lv' := [(2, .int k42_t0), (0, .ref a0)]) (st' := [.int k42_t0, .ref a0]) E b_c11_readsStatement_59_2 rfl ?_
      replace hF := ocl_at hF
      obtain ⟨hc, hF⟩ := hF
      replace hF := obd_at hF
      obtain ⟨⟨v8, s7⟩, he6, hF⟩ := hF
      refine j_callv [.int k42_t0] [] E w_RX11_111 (hroom 1 3 (by decide) (by decide)) hAA (c11_readsDigits _ κ A _ _ _  he6) (fun _ h => h) (fun _ _ _ h _ _ => h) (fun _ h => j_recv E h hc rfl) rfl rfl (Nat.le_of_ble_eq_true rfl) d_c11_readsStatement_61 ⟨Nat.zero_le _, Nat.zero_le _⟩ ?_
      refine j_if_eq (tgt := 76) E d_c11_readsStatement_64 (by decide) (fun h9 => ?_) (fun h9 => ?_)
      · replace hF := g_t hF h9
        refine j_blk (pc' := 77) (lv' := [(2, .int k42_t0), (0, .ref a0)]) (st' := [.int (Int32.ofInt 0)]) E b_c11_readsStatement_76_1 rfl ?_
        have e : res = (Int32.ofInt 0, s7) := g_inj hF
        subst e
        exact j_zret E hQ nb_0 d_c11_readsStatement_77 (fun _ h => h)
      · replace hF := g_f hF h9
        refine j_blk (pc' := 68) (lv' := [(2, .int k42_t0), (0, .ref a0)]) (st' := [.ref a0]) E b_c11_readsStatement_67_1 rfl ?_
        replace hF := ocl_at hF
        obtain ⟨hc, hF⟩ := hF
        replace hF := obd_at hF
        obtain ⟨v11, he10, hF⟩ := hF
        refine j_callv [] [] E w_RX11_103 (hroom 0 1 (by decide) (by decide)) hAA (c11_here _ κ A _ _  he10) (fun _ h => h) (fun _ _ _ h _ _ => h) (fun _ h => j_recv E h hc rfl) rfl rfl (Nat.le_of_ble_eq_true rfl) d_c11_readsStatement_68 ⟨Nat.zero_le _, Nat.zero_le _⟩ ?_
        refine j_blk (pc' := 73) (lv' := [(2, .int k42_t0), (0, .ref a0)]) (st' := [.int ((Int8.ofInt 59).toInt32), .int v11]) E b_c11_readsStatement_71_1 rfl ?_
        refine j_icmp_eq (tgt := 78) E d_c11_readsStatement_73 (by decide) (fun h12 => ?_) (fun h12 => ?_)
        · replace hF := g_t hF h12
          refine j_blk (pc' := 80) (lv' := [(2, .int k42_t0), (0, .ref a0)]) (st' := [.ref a0, .ref a0]) E b_c11_readsStatement_78_2 rfl ?_
          replace hF := obd_at hF
          obtain ⟨v13, ev13, hF⟩ := hF
          refine j_getI E fg_RX11_94 d_c11_readsStatement_80 ev13 ?_
          refine j_blk (pc' := 85) (lv' := [(2, .int k42_t0), (0, .ref a0)]) (st' := [.int (v13 + (Int32.ofInt 1)), .ref a0]) E b_c11_readsStatement_83_2 rfl ?_
          replace hF := obd_at hF
          obtain ⟨s14, es14, hF⟩ := hF
          refine j_put E fp_RX11_94 d_c11_readsStatement_85 rfl rfl es14 hAA ?_
          refine j_blk (pc' := 89) (lv' := [(2, .int k42_t0), (0, .ref a0)]) (st' := [.int (Int32.ofInt 1)]) E b_c11_readsStatement_88_1 rfl ?_
          have e : res = (Int32.ofInt 1, s14) := g_inj hF
          subst e
          exact j_zret E hQ nb_1 d_c11_readsStatement_89 (fun _ h => h)
        · replace hF := g_f hF h12
          refine j_blk (pc' := 77) (lv' := [(2, .int k42_t0), (0, .ref a0)]) (st' := [.int (Int32.ofInt 0)]) E b_c11_readsStatement_76_1 rfl ?_
          have e : res = (Int32.ofInt 0, s7) := g_inj hF
          subst e
          exact j_zret E hQ nb_0 d_c11_readsStatement_77 (fun _ h => h)
    · replace hF := g_f hF h3
      refine j_blk (pc' := 48) (lv' := [(2, .int k42_t0), (0, .ref a0)]) (st' := [.int (Int32.ofInt 0)]) E b_c11_readsStatement_47_1 rfl ?_
      have e : res = (Int32.ofInt 0, s0) := g_inj hF
      subst e
      exact j_zret E hQ nb_0 d_c11_readsStatement_48 (fun _ h => h)
  have kp17 : f11_readsStatement_K17 s0 a0 = some res → J Γ 3 (HS κ A s0) 0 0 17 [(0, .ref a0)] [] := by
    intro hF
    unfold f11_readsStatement_K17 at hF
    refine j_blk (pc' := 18) (lv' := [(0, .ref a0)]) (st' := [.int (Int32.ofInt 2)]) E b_c11_readsStatement_17_1 rfl ?_
    refine j_goto (tgt := 42) E d_c11_readsStatement_18 (by decide) ?_
    exact kp42 (Int32.ofInt 2) hF
  refine j_icmp_eq (tgt := 17) E d_c11_readsStatement_8 (by decide) (fun h15 => ?_) (fun h15 => ?_)
  · replace hF := g_t hF h15
    refine j_lv [1] rfl ?_
    exact kp17 hF
  · replace hF := g_f hF h15
    refine j_blk (pc' := 14) (lv' := [(1, .int v2), (0, .ref a0)]) (st' := [.int ((Int8.ofInt 119).toInt32), .int v2]) E b_c11_readsStatement_11_2 rfl ?_
    refine j_icmp_ne (tgt := 21) E d_c11_readsStatement_14 (by decide) (fun h16 => ?_) (fun h16 => ?_)
    · replace hF := g_f hF h16
      refine j_blk (pc' := 24) (lv' := [(1, .int v2), (0, .ref a0)]) (st' := [.int ((Int8.ofInt 108).toInt32), .int v2]) E b_c11_readsStatement_21_2 rfl ?_
      refine j_icmp_ne (tgt := 31) E d_c11_readsStatement_24 (by decide) (fun h17 => ?_) (fun h17 => ?_)
      · replace hF := g_f hF h17
        refine j_blk (pc' := 34) (lv' := [(1, .int v2), (0, .ref a0)]) (st' := [.int ((Int8.ofInt 117).toInt32), .int v2]) E b_c11_readsStatement_31_2 rfl ?_
        refine j_icmp_ne (tgt := 41) E d_c11_readsStatement_34 (by decide) (fun h18 => ?_) (fun h18 => ?_)
        · replace hF := g_f hF h18
          refine j_blk (pc' := 42) (lv' := [(1, .int v2), (0, .ref a0)]) (st' := [.int (Int32.ofInt (-1))]) E b_c11_readsStatement_41_1 rfl ?_
          refine j_lv [1] rfl ?_
          exact kp42 (Int32.ofInt (-1)) hF
        · replace hF := g_t hF h18
          refine j_blk (pc' := 38) (lv' := [(1, .int v2), (0, .ref a0)]) (st' := [.int (Int32.ofInt 0)]) E b_c11_readsStatement_37_1 rfl ?_
          refine j_goto (tgt := 42) E d_c11_readsStatement_38 (by decide) ?_
          refine j_lv [1] rfl ?_
          exact kp42 (Int32.ofInt 0) hF
      · replace hF := g_t hF h17
        refine j_blk (pc' := 28) (lv' := [(1, .int v2), (0, .ref a0)]) (st' := [.int (Int32.ofInt 1)]) E b_c11_readsStatement_27_1 rfl ?_
        refine j_goto (tgt := 42) E d_c11_readsStatement_28 (by decide) ?_
        refine j_lv [1] rfl ?_
        exact kp42 (Int32.ofInt 1) hF
    · replace hF := g_t hF h16
      refine j_lv [1] rfl ?_
      exact kp17 hF
theorem b_c11_adds_0_1 : bdec cX11_adds 0 [.aload_n 0] = true := by decide +kernel
theorem d_c11_adds_1 : decode cX11_adds 1 = .ok (.getfield 9, 3) := by decide +kernel
theorem b_c11_adds_4_1 : bdec cX11_adds 4 [.iconst 0] = true := by decide +kernel
theorem d_c11_adds_5 : decode cX11_adds 5 = .ok (.iaload, 1) := by decide +kernel
theorem b_c11_adds_6_1 : bdec cX11_adds 6 [.bipush 7] = true := by decide +kernel
theorem d_c11_adds_8 : decode cX11_adds 8 = .ok (.if_icmp .ne 5, 3) := by decide +kernel
theorem b_c11_adds_13_3 : bdec cX11_adds 13 [.aload_n 0, .iload_n 1, .iload_n 2] = true := by decide +kernel
theorem d_c11_adds_16 : decode cX11_adds 16 = .ok (.invokevirtual 114, 3) := by decide +kernel
theorem b_c11_adds_19_1 : bdec cX11_adds 19 [.iconst 1] = true := by decide +kernel
theorem d_c11_adds_20 : decode cX11_adds 20 = .ok (.ireturn, 1) := by decide +kernel
theorem b_c11_adds_11_1 : bdec cX11_adds 11 [.iconst 0] = true := by decide +kernel
theorem d_c11_adds_12 : decode cX11_adds 12 = .ok (.ireturn, 1) := by decide +kernel
def f11_adds (s0 : HM) (a0 : Nat) (p1 : Int32) (p2 : Int32) : Option (Int32 × HM) := obd (hfld s0 [11] 0 a0) (fun v1 => orf v1 (fun b2 => obd (hald s0 b2 (Int32.ofInt 0)) (fun v3 => if v3 = ((Int8.ofInt 7).toInt32) then (some (Int32.ofInt 0, s0)) else (ocl s0 a0 11 (obd (f11_joins s0 a0 p1 p2) (fun s6 => some (Int32.ofInt 1, s6)))))))
set_option maxRecDepth 100000 in
set_option maxHeartbeats 4000000 in
theorem c11_adds (l : Launch) (κ : KP) (A : Nat → Prop) (s0 : HM) (a0 : Nat) (p1 : Int32) (p2 : Int32) {res : Int32 × HM} (hF : f11_adds s0 a0 p1 p2 = some res) : Met l yX11_adds (Cond.code yX11_adds cX11_adds 3 (some .boolean) :: WT) (rmL 2 0 0) (PP κ A [.ref a0, .int p1, .int p2] (HS κ A s0)) (QQ (some (.int res.1)) (HS κ A res.2) A) 0 0 A := by
  refine met_of (own := RX11) (by decide) rfl (Nat.le_of_ble_eq_true rfl) ?_
  intro Γ E hQ hL hR hA hent hini
  have hAA : ∀ q, A q → jA Γ q := fun q h => by rw [hA]; exact h
  have hroom : ∀ (d mL : Nat) {mc ms : Nat}, d < 2 → mL ≤ 21 → (rmL d mc ms).frames + 1 ≤ (jR Γ).frames ∧ 8 + (mL + 11) + (rmL d mc ms).locals ≤ (jR Γ).locals := fun d mL mc ms h1 h2 => by rw [hR]; exact rmL_le h1 h2
  show J Γ 3 (HS κ A s0) 0 0 0 [(0, .ref a0), (1, .int p1), (2, .int p2)] []
  unfold f11_adds at hF
  refine j_blk (pc' := 1) (lv' := [(0, .ref a0), (1, .int p1), (2, .int p2)]) (st' := [.ref a0]) E b_c11_adds_0_1 rfl ?_
  replace hF := obd_at hF
  obtain ⟨v1, ev1, hF⟩ := hF
  refine j_getf E fg_RX11_9 d_c11_adds_1 ev1 ?_
  refine j_blk (pc' := 5) (lv' := [(0, .ref a0), (1, .int p1), (2, .int p2)]) (st' := [.int (Int32.ofInt 0), v1]) E b_c11_adds_4_1 rfl ?_
  replace hF := orf_at hF
  obtain ⟨b2, rfl, hF⟩ := hF
  replace hF := obd_at hF
  obtain ⟨v3, ev3, hF⟩ := hF
  refine j_iald E d_c11_adds_5 ev3 ?_
  refine j_blk (pc' := 8) (lv' := [(0, .ref a0), (1, .int p1), (2, .int p2)]) (st' := [.int ((Int8.ofInt 7).toInt32), .int v3]) E b_c11_adds_6_1 rfl ?_
  refine j_icmp_ne (tgt := 13) E d_c11_adds_8 (by decide) (fun h4 => ?_) (fun h4 => ?_)
  · replace hF := g_f hF h4
    refine j_blk (pc' := 16) (lv' := [(0, .ref a0), (1, .int p1), (2, .int p2)]) (st' := [.int p2, .int p1, .ref a0]) E b_c11_adds_13_3 rfl ?_
    replace hF := ocl_at hF
    obtain ⟨hc, hF⟩ := hF
    replace hF := obd_at hF
    obtain ⟨s6, he5, hF⟩ := hF
    refine j_callv [.int p1, .int p2] [] E w_RX11_114 (hroom 1 5 (by decide) (by decide)) hAA (c11_joins _ κ A _ _ _ _  he5) (fun _ h => h) (fun _ _ _ h _ _ => h) (fun _ h => j_recv E h hc rfl) rfl rfl (Nat.le_of_ble_eq_true rfl) d_c11_adds_16 ⟨Nat.zero_le _, Nat.zero_le _⟩ ?_
    refine j_blk (pc' := 20) (lv' := [(0, .ref a0), (1, .int p1), (2, .int p2)]) (st' := [.int (Int32.ofInt 1)]) E b_c11_adds_19_1 rfl ?_
    have e : res = (Int32.ofInt 1, s6) := g_inj hF
    subst e
    exact j_zret E hQ nb_1 d_c11_adds_20 (fun _ h => h)
  · replace hF := g_t hF h4
    refine j_blk (pc' := 12) (lv' := [(0, .ref a0), (1, .int p1), (2, .int p2)]) (st' := [.int (Int32.ofInt 0)]) E b_c11_adds_11_1 rfl ?_
    have e : res = (Int32.ofInt 0, s0) := g_inj hF
    subst e
    exact j_zret E hQ nb_0 d_c11_adds_12 (fun _ h => h)
theorem b_c11_wrongRow_0_1 : bdec cX11_wrongRow 0 [.iload_n 1] = true := by decide +kernel
theorem d_c11_wrongRow_1 : decode cX11_wrongRow 1 = .ok (.invokestatic 131, 3) := by decide +kernel
theorem d_c11_wrongRow_4 : decode cX11_wrongRow 4 = .ok (.ifCond .ne 7, 3) := by decide +kernel
theorem b_c11_wrongRow_11_1 : bdec cX11_wrongRow 11 [.aload_n 0] = true := by decide +kernel
theorem d_c11_wrongRow_12 : decode cX11_wrongRow 12 = .ok (.getfield 22, 3) := by decide +kernel
theorem b_c11_wrongRow_15_1 : bdec cX11_wrongRow 15 [.iload_n 1] = true := by decide +kernel
theorem d_c11_wrongRow_16 : decode cX11_wrongRow 16 = .ok (.iaload, 1) := by decide +kernel
theorem d_c11_wrongRow_17 : decode cX11_wrongRow 17 = .ok (.ifCond .ne 8, 3) := by decide +kernel
theorem b_c11_wrongRow_25_1 : bdec cX11_wrongRow 25 [.aload_n 0] = true := by decide +kernel
theorem d_c11_wrongRow_26 : decode cX11_wrongRow 26 = .ok (.getfield 22, 3) := by decide +kernel
theorem b_c11_wrongRow_29_1 : bdec cX11_wrongRow 29 [.iload_n 1] = true := by decide +kernel
theorem d_c11_wrongRow_30 : decode cX11_wrongRow 30 = .ok (.iaload, 1) := by decide +kernel
theorem b_c11_wrongRow_31_1 : bdec cX11_wrongRow 31 [.iconst 2] = true := by decide +kernel
theorem d_c11_wrongRow_32 : decode cX11_wrongRow 32 = .ok (.if_icmp .ne 17, 3) := by decide +kernel
theorem b_c11_wrongRow_49_1 : bdec cX11_wrongRow 49 [.bipush (-12)] = true := by decide +kernel
theorem d_c11_wrongRow_51 : decode cX11_wrongRow 51 = .ok (.goto 4, 3) := by decide +kernel
theorem d_c11_wrongRow_55 : decode cX11_wrongRow 55 = .ok (.ireturn, 1) := by decide +kernel
theorem b_c11_wrongRow_35_1 : bdec cX11_wrongRow 35 [.iload_n 2] = true := by decide +kernel
theorem d_c11_wrongRow_36 : decode cX11_wrongRow 36 = .ok (.ifCond .lt 18, 3) := by decide +kernel
theorem b_c11_wrongRow_54_1 : bdec cX11_wrongRow 54 [.iconst 0] = true := by decide +kernel
theorem b_c11_wrongRow_39_1 : bdec cX11_wrongRow 39 [.aload_n 0] = true := by decide +kernel
theorem d_c11_wrongRow_40 : decode cX11_wrongRow 40 = .ok (.getfield 25, 3) := by decide +kernel
theorem b_c11_wrongRow_43_1 : bdec cX11_wrongRow 43 [.iload_n 1] = true := by decide +kernel
theorem d_c11_wrongRow_44 : decode cX11_wrongRow 44 = .ok (.iaload, 1) := by decide +kernel
theorem b_c11_wrongRow_45_1 : bdec cX11_wrongRow 45 [.iload_n 2] = true := by decide +kernel
theorem d_c11_wrongRow_46 : decode cX11_wrongRow 46 = .ok (.if_icmp .eq 8, 3) := by decide +kernel
theorem b_c11_wrongRow_20_1 : bdec cX11_wrongRow 20 [.bipush (-11)] = true := by decide +kernel
theorem d_c11_wrongRow_22 : decode cX11_wrongRow 22 = .ok (.goto 33, 3) := by decide +kernel
theorem b_c11_wrongRow_7_1 : bdec cX11_wrongRow 7 [.iconst (-1)] = true := by decide +kernel
theorem d_c11_wrongRow_8 : decode cX11_wrongRow 8 = .ok (.goto 47, 3) := by decide +kernel
def f11_wrongRow (s0 : HM) (a0 : Nat) (p1 : Int32) (p2 : Int32) : Option (Int32) := obd (f11_isShelf p1) (fun v2 => if v2 = 0 then (some (Int32.ofInt (-1))) else (obd (hfld s0 [11] 4 a0) (fun v4 => orf v4 (fun b5 => obd (hald s0 b5 p1) (fun v6 => if v6 = 0 then (some ((Int8.ofInt (-11)).toInt32)) else (obd (hfld s0 [11] 4 a0) (fun v8 => orf v8 (fun b9 => obd (hald s0 b9 p1) (fun v10 => if v10 = (Int32.ofInt 2) then (if p2 < 0 then (some (Int32.ofInt 0)) else (obd (hfld s0 [11] 5 a0) (fun v13 => orf v13 (fun b14 => obd (hald s0 b14 p1) (fun v15 => if v15 = p2 then (some (Int32.ofInt 0)) else (some ((Int8.ofInt (-12)).toInt32))))))) else (some ((Int8.ofInt (-12)).toInt32)))))))))))
set_option maxRecDepth 100000 in
set_option maxHeartbeats 4000000 in
theorem c11_wrongRow (l : Launch) (κ : KP) (A : Nat → Prop) (s0 : HM) (a0 : Nat) (p1 : Int32) (p2 : Int32) {res : Int32} (hF : f11_wrongRow s0 a0 p1 p2 = some res) : Met l yX11_wrongRow (Cond.code yX11_wrongRow cX11_wrongRow 3 (some .int) :: WT) (rmL 2 0 0) (PP κ A [.ref a0, .int p1, .int p2] (HS κ A s0)) (QQ (some (.int res)) (HS κ A s0) A) 0 0 A := by
  refine met_of (own := RX11) (by decide) rfl (Nat.le_of_ble_eq_true rfl) ?_
  intro Γ E hQ hL hR hA hent hini
  have hAA : ∀ q, A q → jA Γ q := fun q h => by rw [hA]; exact h
  have hroom : ∀ (d mL : Nat) {mc ms : Nat}, d < 2 → mL ≤ 21 → (rmL d mc ms).frames + 1 ≤ (jR Γ).frames ∧ 8 + (mL + 11) + (rmL d mc ms).locals ≤ (jR Γ).locals := fun d mL mc ms h1 h2 => by rw [hR]; exact rmL_le h1 h2
  show J Γ 3 (HS κ A s0) 0 0 0 [(0, .ref a0), (1, .int p1), (2, .int p2)] []
  unfold f11_wrongRow at hF
  refine j_blk (pc' := 1) (lv' := [(0, .ref a0), (1, .int p1), (2, .int p2)]) (st' := [.int p1]) E b_c11_wrongRow_0_1 rfl ?_
  replace hF := obd_at hF
  obtain ⟨v2, he1, hF⟩ := hF
  refine j_calls [.int p1] [] E w_RX11_131 (hroom 1 1 (by decide) (by decide)) hAA (c11_isShelf _ κ A (HS κ A s0) _  he1) (fun _ h => h) (fun _ _ _ h _ _ => h) rfl rfl (Nat.le_of_ble_eq_true rfl) d_c11_wrongRow_1 ⟨Nat.zero_le _, Nat.zero_le _⟩ ?_
  refine j_if_ne (tgt := 11) E d_c11_wrongRow_4 (by decide) (fun h3 => ?_) (fun h3 => ?_)
  · replace hF := g_f hF h3
    refine j_blk (pc' := 12) (lv' := [(0, .ref a0), (1, .int p1), (2, .int p2)]) (st' := [.ref a0]) E b_c11_wrongRow_11_1 rfl ?_
    replace hF := obd_at hF
    obtain ⟨v4, ev4, hF⟩ := hF
    refine j_getf E fg_RX11_22 d_c11_wrongRow_12 ev4 ?_
    refine j_blk (pc' := 16) (lv' := [(0, .ref a0), (1, .int p1), (2, .int p2)]) (st' := [.int p1, v4]) E b_c11_wrongRow_15_1 rfl ?_
    replace hF := orf_at hF
    obtain ⟨b5, rfl, hF⟩ := hF
    replace hF := obd_at hF
    obtain ⟨v6, ev6, hF⟩ := hF
    refine j_iald E d_c11_wrongRow_16 ev6 ?_
    refine j_if_ne (tgt := 25) E d_c11_wrongRow_17 (by decide) (fun h7 => ?_) (fun h7 => ?_)
    · replace hF := g_f hF h7
      refine j_blk (pc' := 26) (lv' := [(0, .ref a0), (1, .int p1), (2, .int p2)]) (st' := [.ref a0]) E b_c11_wrongRow_25_1 rfl ?_
      replace hF := obd_at hF
      obtain ⟨v8, ev8, hF⟩ := hF
      refine j_getf E fg_RX11_22 d_c11_wrongRow_26 ev8 ?_
      refine j_blk (pc' := 30) (lv' := [(0, .ref a0), (1, .int p1), (2, .int p2)]) (st' := [.int p1, v8]) E b_c11_wrongRow_29_1 rfl ?_
      replace hF := orf_at hF
      obtain ⟨b9, rfl, hF⟩ := hF
      replace hF := obd_at hF
      obtain ⟨v10, ev10, hF⟩ := hF
      refine j_iald E d_c11_wrongRow_30 ev10 ?_
      refine j_blk (pc' := 32) (lv' := [(0, .ref a0), (1, .int p1), (2, .int p2)]) (st' := [.int (Int32.ofInt 2), .int v10]) E b_c11_wrongRow_31_1 rfl ?_
      refine j_icmp_ne (tgt := 49) E d_c11_wrongRow_32 (by decide) (fun h11 => ?_) (fun h11 => ?_)
      · replace hF := g_f hF h11
        refine j_blk (pc' := 51) (lv' := [(0, .ref a0), (1, .int p1), (2, .int p2)]) (st' := [.int ((Int8.ofInt (-12)).toInt32)]) E b_c11_wrongRow_49_1 rfl ?_
        refine j_goto (tgt := 55) E d_c11_wrongRow_51 (by decide) ?_
        have e : res = (Int8.ofInt (-12)).toInt32 := g_inj hF
        subst e
        exact j_iret E hQ d_c11_wrongRow_55 (fun _ h => h)
      · replace hF := g_t hF h11
        refine j_blk (pc' := 36) (lv' := [(0, .ref a0), (1, .int p1), (2, .int p2)]) (st' := [.int p2]) E b_c11_wrongRow_35_1 rfl ?_
        refine j_if_lt (tgt := 54) E d_c11_wrongRow_36 (by decide) (fun h12 => ?_) (fun h12 => ?_)
        · replace hF := g_t hF h12
          refine j_blk (pc' := 55) (lv' := [(0, .ref a0), (1, .int p1), (2, .int p2)]) (st' := [.int (Int32.ofInt 0)]) E b_c11_wrongRow_54_1 rfl ?_
          have e : res = Int32.ofInt 0 := g_inj hF
          subst e
          exact j_iret E hQ d_c11_wrongRow_55 (fun _ h => h)
        · replace hF := g_f hF h12
          refine j_blk (pc' := 40) (lv' := [(0, .ref a0), (1, .int p1), (2, .int p2)]) (st' := [.ref a0]) E b_c11_wrongRow_39_1 rfl ?_
          replace hF := obd_at hF
          obtain ⟨v13, ev13, hF⟩ := hF
          refine j_getf E fg_RX11_25 d_c11_wrongRow_40 ev13 ?_
          refine j_blk (pc' := 44) (lv' := [(0, .ref a0), (1, .int p1), (2, .int p2)]) (st' := [.int p1, v13]) E b_c11_wrongRow_43_1 rfl ?_
          replace hF := orf_at hF
          obtain ⟨b14, rfl, hF⟩ := hF
          replace hF := obd_at hF
          obtain ⟨v15, ev15, hF⟩ := hF
          refine j_iald E d_c11_wrongRow_44 ev15 ?_
          refine j_blk (pc' := 46) (lv' := [(0, .ref a0), (1, .int p1), (2, .int p2)]) (st' := [.int p2, .int v15]) E b_c11_wrongRow_45_1 rfl ?_
          refine j_icmp_eq (tgt := 54) E d_c11_wrongRow_46 (by decide) (fun h16 => ?_) (fun h16 => ?_)
          · replace hF := g_t hF h16
            refine j_blk (pc' := 55) (lv' := [(0, .ref a0), (1, .int p1), (2, .int p2)]) (st' := [.int (Int32.ofInt 0)]) E b_c11_wrongRow_54_1 rfl ?_
            have e : res = Int32.ofInt 0 := g_inj hF
            subst e
            exact j_iret E hQ d_c11_wrongRow_55 (fun _ h => h)
          · replace hF := g_f hF h16
            refine j_blk (pc' := 51) (lv' := [(0, .ref a0), (1, .int p1), (2, .int p2)]) (st' := [.int ((Int8.ofInt (-12)).toInt32)]) E b_c11_wrongRow_49_1 rfl ?_
            refine j_goto (tgt := 55) E d_c11_wrongRow_51 (by decide) ?_
            have e : res = (Int8.ofInt (-12)).toInt32 := g_inj hF
            subst e
            exact j_iret E hQ d_c11_wrongRow_55 (fun _ h => h)
    · replace hF := g_t hF h7
      refine j_blk (pc' := 22) (lv' := [(0, .ref a0), (1, .int p1), (2, .int p2)]) (st' := [.int ((Int8.ofInt (-11)).toInt32)]) E b_c11_wrongRow_20_1 rfl ?_
      refine j_goto (tgt := 55) E d_c11_wrongRow_22 (by decide) ?_
      have e : res = (Int8.ofInt (-11)).toInt32 := g_inj hF
      subst e
      exact j_iret E hQ d_c11_wrongRow_55 (fun _ h => h)
  · replace hF := g_t hF h3
    refine j_blk (pc' := 8) (lv' := [(0, .ref a0), (1, .int p1), (2, .int p2)]) (st' := [.int (Int32.ofInt (-1))]) E b_c11_wrongRow_7_1 rfl ?_
    refine j_goto (tgt := 55) E d_c11_wrongRow_8 (by decide) ?_
    have e : res = Int32.ofInt (-1) := g_inj hF
    subst e
    exact j_iret E hQ d_c11_wrongRow_55 (fun _ h => h)
theorem b_c11_one_0_2 : bdec cX11_one 0 [.aload_n 0, .iload_n 1] = true := by decide +kernel
theorem d_c11_one_2 : decode cX11_one 2 = .ok (.invokevirtual 55, 3) := by decide +kernel
theorem d_c11_one_5 : decode cX11_one 5 = .ok (.ifCond .ne 5, 3) := by decide +kernel
theorem b_c11_one_10_1 : bdec cX11_one 10 [.iload_n 2] = true := by decide +kernel
theorem d_c11_one_11 : decode cX11_one 11 = .ok (.tableswitch 89 0 5 #[37, 43, 49, 55, 61, 75], 37) := by decide +kernel
theorem b_c11_one_48_2 : bdec cX11_one 48 [.aload_n 0, .iload_n 1] = true := by decide +kernel
theorem d_c11_one_50 : decode cX11_one 50 = .ok (.invokevirtual 73, 3) := by decide +kernel
theorem d_c11_one_53 : decode cX11_one 53 = .ok (.ireturn, 1) := by decide +kernel
theorem b_c11_one_54_2 : bdec cX11_one 54 [.aload_n 0, .iload_n 1] = true := by decide +kernel
theorem d_c11_one_56 : decode cX11_one 56 = .ok (.invokevirtual 70, 3) := by decide +kernel
theorem d_c11_one_59 : decode cX11_one 59 = .ok (.ireturn, 1) := by decide +kernel
theorem b_c11_one_60_2 : bdec cX11_one 60 [.aload_n 0, .iload_n 1] = true := by decide +kernel
theorem d_c11_one_62 : decode cX11_one 62 = .ok (.invokevirtual 144, 3) := by decide +kernel
theorem d_c11_one_65 : decode cX11_one 65 = .ok (.ireturn, 1) := by decide +kernel
theorem b_c11_one_66_2 : bdec cX11_one 66 [.aload_n 0, .iload_n 1] = true := by decide +kernel
theorem d_c11_one_68 : decode cX11_one 68 = .ok (.invokevirtual 63, 3) := by decide +kernel
theorem d_c11_one_71 : decode cX11_one 71 = .ok (.ireturn, 1) := by decide +kernel
theorem b_c11_one_72_2 : bdec cX11_one 72 [.aload_n 0, .iload_n 1] = true := by decide +kernel
theorem d_c11_one_74 : decode cX11_one 74 = .ok (.invokevirtual 88, 3) := by decide +kernel
theorem d_c11_one_77 : decode cX11_one 77 = .ok (.ifCond .eq 7, 3) := by decide +kernel
theorem b_c11_one_84_1 : bdec cX11_one 84 [.iconst 0] = true := by decide +kernel
theorem d_c11_one_85 : decode cX11_one 85 = .ok (.ireturn, 1) := by decide +kernel
theorem b_c11_one_80_1 : bdec cX11_one 80 [.iconst 1] = true := by decide +kernel
theorem d_c11_one_81 : decode cX11_one 81 = .ok (.goto 4, 3) := by decide +kernel
theorem b_c11_one_86_2 : bdec cX11_one 86 [.aload_n 0, .iload_n 1] = true := by decide +kernel
theorem d_c11_one_88 : decode cX11_one 88 = .ok (.invokevirtual 73, 3) := by decide +kernel
theorem b_c11_one_91_2 : bdec cX11_one 91 [.aload_n 0, .iload_n 1] = true := by decide +kernel
theorem d_c11_one_93 : decode cX11_one 93 = .ok (.invokevirtual 70, 3) := by decide +kernel
theorem d_c11_one_96 : decode cX11_one 96 = .ok (.invokestatic 147, 3) := by decide +kernel
theorem d_c11_one_99 : decode cX11_one 99 = .ok (.ireturn, 1) := by decide +kernel
theorem b_c11_one_100_1 : bdec cX11_one 100 [.iconst (-1)] = true := by decide +kernel
theorem d_c11_one_101 : decode cX11_one 101 = .ok (.ireturn, 1) := by decide +kernel
theorem b_c11_one_8_1 : bdec cX11_one 8 [.iconst (-1)] = true := by decide +kernel
theorem d_c11_one_9 : decode cX11_one 9 = .ok (.ireturn, 1) := by decide +kernel
def f11_one (s0 : HM) (a0 : Nat) (p1 : Int32) (p2 : Int32) : Option (Int32) := ocl s0 a0 11 (obd (f11_isOne s0 a0 p1) (fun v2 => if v2 = 0 then (some (Int32.ofInt (-1))) else (if p2 = 0 then (ocl s0 a0 11 (obd (f11_kind s0 a0 p1) (fun v6 => some v6))) else (if p2 = 1 then (ocl s0 a0 11 (obd (f11_figure s0 a0 p1) (fun v9 => some v9))) else (if p2 = 2 then (ocl s0 a0 11 (obd (f11_skill s0 a0 p1) (fun v12 => some v12))) else (if p2 = 3 then (ocl s0 a0 11 (obd (f11_beaten s0 a0 p1) (fun v15 => some v15))) else (if p2 = 4 then (ocl s0 a0 11 (obd (f11_counts s0 a0 p1) (fun v18 => if v18 = 0 then (some (Int32.ofInt 0)) else (some (Int32.ofInt 1))))) else (if p2 = 5 then (ocl s0 a0 11 (obd (f11_kind s0 a0 p1) (fun v22 => ocl s0 a0 11 (obd (f11_figure s0 a0 p1) (fun v24 => obd (f11_priceBy v22 v24) (fun v26 => some v26)))))) else (some (Int32.ofInt (-1)))))))))))
set_option maxRecDepth 100000 in
set_option maxHeartbeats 4000000 in
theorem c11_one (l : Launch) (κ : KP) (A : Nat → Prop) (s0 : HM) (a0 : Nat) (p1 : Int32) (p2 : Int32) {res : Int32} (hF : f11_one s0 a0 p1 p2 = some res) : Met l yX11_one (Cond.code yX11_one cX11_one 3 (some .int) :: WT) (rmL 2 0 0) (PP κ A [.ref a0, .int p1, .int p2] (HS κ A s0)) (QQ (some (.int res)) (HS κ A s0) A) 0 0 A := by
  refine met_of (own := RX11) (by decide) rfl (Nat.le_of_ble_eq_true rfl) ?_
  intro Γ E hQ hL hR hA hent hini
  have hAA : ∀ q, A q → jA Γ q := fun q h => by rw [hA]; exact h
  have hroom : ∀ (d mL : Nat) {mc ms : Nat}, d < 2 → mL ≤ 21 → (rmL d mc ms).frames + 1 ≤ (jR Γ).frames ∧ 8 + (mL + 11) + (rmL d mc ms).locals ≤ (jR Γ).locals := fun d mL mc ms h1 h2 => by rw [hR]; exact rmL_le h1 h2
  show J Γ 3 (HS κ A s0) 0 0 0 [(0, .ref a0), (1, .int p1), (2, .int p2)] []
  unfold f11_one at hF
  refine j_blk (pc' := 2) (lv' := [(0, .ref a0), (1, .int p1), (2, .int p2)]) (st' := [.int p1, .ref a0]) E b_c11_one_0_2 rfl ?_
  replace hF := ocl_at hF
  obtain ⟨hc, hF⟩ := hF
  replace hF := obd_at hF
  obtain ⟨v2, he1, hF⟩ := hF
  refine j_callv [.int p1] [] E w_RX11_55 (hroom 1 2 (by decide) (by decide)) hAA (c11_isOne _ κ A _ _ _  he1) (fun _ h => h) (fun _ _ _ h _ _ => h) (fun _ h => j_recv E h hc rfl) rfl rfl (Nat.le_of_ble_eq_true rfl) d_c11_one_2 ⟨Nat.zero_le _, Nat.zero_le _⟩ ?_
  refine j_if_ne (tgt := 10) E d_c11_one_5 (by decide) (fun h3 => ?_) (fun h3 => ?_)
  · replace hF := g_f hF h3
    refine j_blk (pc' := 11) (lv' := [(0, .ref a0), (1, .int p1), (2, .int p2)]) (st' := [.int p2]) E b_c11_one_10_1 rfl ?_
    rcases Decidable.em (p2 = 0) with h4 | h4
    · replace hF := g_t hF h4
      refine j_tin (tgt := 48) (off := 37) E d_c11_one_11 h4 (by decide) (by decide) (by decide) (by decide) ?_
      refine j_blk (pc' := 50) (lv' := [(0, .ref a0), (1, .int p1), (2, .int p2)]) (st' := [.int p1, .ref a0]) E b_c11_one_48_2 rfl ?_
      replace hF := ocl_at hF
      obtain ⟨hc, hF⟩ := hF
      replace hF := obd_at hF
      obtain ⟨v6, he5, hF⟩ := hF
      refine j_callv [.int p1] [] E w_RX11_73 (hroom 0 2 (by decide) (by decide)) hAA (c11_kind _ κ A _ _ _  he5) (fun _ h => h) (fun _ _ _ h _ _ => h) (fun _ h => j_recv E h hc rfl) rfl rfl (Nat.le_of_ble_eq_true rfl) d_c11_one_50 ⟨Nat.zero_le _, Nat.zero_le _⟩ ?_
      have e : res = v6 := g_inj hF
      subst e
      exact j_iret E hQ d_c11_one_53 (fun _ h => h)
    · replace hF := g_f hF h4
      rcases Decidable.em (p2 = 1) with h7 | h7
      · replace hF := g_t hF h7
        refine j_tin (tgt := 54) (off := 43) E d_c11_one_11 h7 (by decide) (by decide) (by decide) (by decide) ?_
        refine j_blk (pc' := 56) (lv' := [(0, .ref a0), (1, .int p1), (2, .int p2)]) (st' := [.int p1, .ref a0]) E b_c11_one_54_2 rfl ?_
        replace hF := ocl_at hF
        obtain ⟨hc, hF⟩ := hF
        replace hF := obd_at hF
        obtain ⟨v9, he8, hF⟩ := hF
        refine j_callv [.int p1] [] E w_RX11_70 (hroom 0 2 (by decide) (by decide)) hAA (c11_figure _ κ A _ _ _  he8) (fun _ h => h) (fun _ _ _ h _ _ => h) (fun _ h => j_recv E h hc rfl) rfl rfl (Nat.le_of_ble_eq_true rfl) d_c11_one_56 ⟨Nat.zero_le _, Nat.zero_le _⟩ ?_
        have e : res = v9 := g_inj hF
        subst e
        exact j_iret E hQ d_c11_one_59 (fun _ h => h)
      · replace hF := g_f hF h7
        rcases Decidable.em (p2 = 2) with h10 | h10
        · replace hF := g_t hF h10
          refine j_tin (tgt := 60) (off := 49) E d_c11_one_11 h10 (by decide) (by decide) (by decide) (by decide) ?_
          refine j_blk (pc' := 62) (lv' := [(0, .ref a0), (1, .int p1), (2, .int p2)]) (st' := [.int p1, .ref a0]) E b_c11_one_60_2 rfl ?_
          replace hF := ocl_at hF
          obtain ⟨hc, hF⟩ := hF
          replace hF := obd_at hF
          obtain ⟨v12, he11, hF⟩ := hF
          refine j_callv [.int p1] [] E w_RX11_144 (hroom 1 2 (by decide) (by decide)) hAA (c11_skill _ κ A _ _ _  he11) (fun _ h => h) (fun _ _ _ h _ _ => h) (fun _ h => j_recv E h hc rfl) rfl rfl (Nat.le_of_ble_eq_true rfl) d_c11_one_62 ⟨Nat.zero_le _, Nat.zero_le _⟩ ?_
          have e : res = v12 := g_inj hF
          subst e
          exact j_iret E hQ d_c11_one_65 (fun _ h => h)
        · replace hF := g_f hF h10
          rcases Decidable.em (p2 = 3) with h13 | h13
          · replace hF := g_t hF h13
            refine j_tin (tgt := 66) (off := 55) E d_c11_one_11 h13 (by decide) (by decide) (by decide) (by decide) ?_
            refine j_blk (pc' := 68) (lv' := [(0, .ref a0), (1, .int p1), (2, .int p2)]) (st' := [.int p1, .ref a0]) E b_c11_one_66_2 rfl ?_
            replace hF := ocl_at hF
            obtain ⟨hc, hF⟩ := hF
            replace hF := obd_at hF
            obtain ⟨v15, he14, hF⟩ := hF
            refine j_callv [.int p1] [] E w_RX11_63 (hroom 0 2 (by decide) (by decide)) hAA (c11_beaten _ κ A _ _ _  he14) (fun _ h => h) (fun _ _ _ h _ _ => h) (fun _ h => j_recv E h hc rfl) rfl rfl (Nat.le_of_ble_eq_true rfl) d_c11_one_68 ⟨Nat.zero_le _, Nat.zero_le _⟩ ?_
            have e : res = v15 := g_inj hF
            subst e
            exact j_iret E hQ d_c11_one_71 (fun _ h => h)
          · replace hF := g_f hF h13
            rcases Decidable.em (p2 = 4) with h16 | h16
            · replace hF := g_t hF h16
              refine j_tin (tgt := 72) (off := 61) E d_c11_one_11 h16 (by decide) (by decide) (by decide) (by decide) ?_
              refine j_blk (pc' := 74) (lv' := [(0, .ref a0), (1, .int p1), (2, .int p2)]) (st' := [.int p1, .ref a0]) E b_c11_one_72_2 rfl ?_
              replace hF := ocl_at hF
              obtain ⟨hc, hF⟩ := hF
              replace hF := obd_at hF
              obtain ⟨v18, he17, hF⟩ := hF
              refine j_callv [.int p1] [] E w_RX11_88 (hroom 1 4 (by decide) (by decide)) hAA (c11_counts _ κ A _ _ _  he17) (fun _ h => h) (fun _ _ _ h _ _ => h) (fun _ h => j_recv E h hc rfl) rfl rfl (Nat.le_of_ble_eq_true rfl) d_c11_one_74 ⟨Nat.zero_le _, Nat.zero_le _⟩ ?_
              refine j_if_eq (tgt := 84) E d_c11_one_77 (by decide) (fun h19 => ?_) (fun h19 => ?_)
              · replace hF := g_t hF h19
                refine j_blk (pc' := 85) (lv' := [(0, .ref a0), (1, .int p1), (2, .int p2)]) (st' := [.int (Int32.ofInt 0)]) E b_c11_one_84_1 rfl ?_
                have e : res = Int32.ofInt 0 := g_inj hF
                subst e
                exact j_iret E hQ d_c11_one_85 (fun _ h => h)
              · replace hF := g_f hF h19
                refine j_blk (pc' := 81) (lv' := [(0, .ref a0), (1, .int p1), (2, .int p2)]) (st' := [.int (Int32.ofInt 1)]) E b_c11_one_80_1 rfl ?_
                refine j_goto (tgt := 85) E d_c11_one_81 (by decide) ?_
                have e : res = Int32.ofInt 1 := g_inj hF
                subst e
                exact j_iret E hQ d_c11_one_85 (fun _ h => h)
            · replace hF := g_f hF h16
              rcases Decidable.em (p2 = 5) with h20 | h20
              · replace hF := g_t hF h20
                refine j_tin (tgt := 86) (off := 75) E d_c11_one_11 h20 (by decide) (by decide) (by decide) (by decide) ?_
                refine j_blk (pc' := 88) (lv' := [(0, .ref a0), (1, .int p1), (2, .int p2)]) (st' := [.int p1, .ref a0]) E b_c11_one_86_2 rfl ?_
                replace hF := ocl_at hF
                obtain ⟨hc, hF⟩ := hF
                replace hF := obd_at hF
                obtain ⟨v22, he21, hF⟩ := hF
                refine j_callv [.int p1] [] E w_RX11_73 (hroom 0 2 (by decide) (by decide)) hAA (c11_kind _ κ A _ _ _  he21) (fun _ h => h) (fun _ _ _ h _ _ => h) (fun _ h => j_recv E h hc rfl) rfl rfl (Nat.le_of_ble_eq_true rfl) d_c11_one_88 ⟨Nat.zero_le _, Nat.zero_le _⟩ ?_
                refine j_blk (pc' := 93) (lv' := [(0, .ref a0), (1, .int p1), (2, .int p2)]) (st' := [.int p1, .ref a0, .int v22]) E b_c11_one_91_2 rfl ?_
                replace hF := ocl_at hF
                obtain ⟨hc, hF⟩ := hF
                replace hF := obd_at hF
                obtain ⟨v24, he23, hF⟩ := hF
                refine j_callv [.int p1] [.int v22] E w_RX11_70 (hroom 0 2 (by decide) (by decide)) hAA (c11_figure _ κ A _ _ _  he23) (fun _ h => h) (fun _ _ _ h _ _ => h) (fun _ h => j_recv E h hc rfl) rfl rfl (Nat.le_of_ble_eq_true rfl) d_c11_one_93 ⟨Nat.zero_le _, Nat.zero_le _⟩ ?_
                replace hF := obd_at hF
                obtain ⟨v26, he25, hF⟩ := hF
                refine j_calls [.int v22, .int v24] [] E w_RX11_147 (hroom 0 2 (by decide) (by decide)) hAA (c11_priceBy _ κ A (HS κ A s0) _ _  he25) (fun _ h => h) (fun _ _ _ h _ _ => h) rfl rfl (Nat.le_of_ble_eq_true rfl) d_c11_one_96 ⟨Nat.zero_le _, Nat.zero_le _⟩ ?_
                have e : res = v26 := g_inj hF
                subst e
                exact j_iret E hQ d_c11_one_99 (fun _ h => h)
              · replace hF := g_f hF h20
                have h4 := lv_neT h4 (a := 0) (by decide)
                have h7 := lv_neT h7 (a := 1) (by decide)
                have h10 := lv_neT h10 (a := 2) (by decide)
                have h13 := lv_neT h13 (a := 3) (by decide)
                have h16 := lv_neT h16 (a := 4) (by decide)
                have h20 := lv_neT h20 (a := 5) (by decide)
                refine j_tout (tgt := 100) E d_c11_one_11 (by omega) (by decide) ?_
                refine j_blk (pc' := 101) (lv' := [(0, .ref a0), (1, .int p1), (2, .int p2)]) (st' := [.int (Int32.ofInt (-1))]) E b_c11_one_100_1 rfl ?_
                have e : res = Int32.ofInt (-1) := g_inj hF
                subst e
                exact j_iret E hQ d_c11_one_101 (fun _ h => h)
  · replace hF := g_t hF h3
    refine j_blk (pc' := 9) (lv' := [(0, .ref a0), (1, .int p1), (2, .int p2)]) (st' := [.int (Int32.ofInt (-1))]) E b_c11_one_8_1 rfl ?_
    have e : res = Int32.ofInt (-1) := g_inj hF
    subst e
    exact j_iret E hQ d_c11_one_9 (fun _ h => h)
theorem b_c11_wrongKept_0_1 : bdec cX11_wrongKept 0 [.iload_n 1] = true := by decide +kernel
theorem d_c11_wrongKept_1 : decode cX11_wrongKept 1 = .ok (.invokestatic 131, 3) := by decide +kernel
theorem d_c11_wrongKept_4 : decode cX11_wrongKept 4 = .ok (.ifCond .ne 7, 3) := by decide +kernel
theorem b_c11_wrongKept_11_1 : bdec cX11_wrongKept 11 [.aload_n 0] = true := by decide +kernel
theorem d_c11_wrongKept_12 : decode cX11_wrongKept 12 = .ok (.getfield 22, 3) := by decide +kernel
theorem b_c11_wrongKept_15_1 : bdec cX11_wrongKept 15 [.iload_n 1] = true := by decide +kernel
theorem d_c11_wrongKept_16 : decode cX11_wrongKept 16 = .ok (.iaload, 1) := by decide +kernel
theorem d_c11_wrongKept_17 : decode cX11_wrongKept 17 = .ok (.ifCond .ne 8, 3) := by decide +kernel
theorem b_c11_wrongKept_25_1 : bdec cX11_wrongKept 25 [.aload_n 0] = true := by decide +kernel
theorem d_c11_wrongKept_26 : decode cX11_wrongKept 26 = .ok (.getfield 22, 3) := by decide +kernel
theorem b_c11_wrongKept_29_1 : bdec cX11_wrongKept 29 [.iload_n 1] = true := by decide +kernel
theorem d_c11_wrongKept_30 : decode cX11_wrongKept 30 = .ok (.iaload, 1) := by decide +kernel
theorem b_c11_wrongKept_31_1 : bdec cX11_wrongKept 31 [.iconst 1] = true := by decide +kernel
theorem d_c11_wrongKept_32 : decode cX11_wrongKept 32 = .ok (.if_icmp .ne 7, 3) := by decide +kernel
theorem b_c11_wrongKept_39_1 : bdec cX11_wrongKept 39 [.bipush (-12)] = true := by decide +kernel
theorem d_c11_wrongKept_41 : decode cX11_wrongKept 41 = .ok (.ireturn, 1) := by decide +kernel
theorem b_c11_wrongKept_35_1 : bdec cX11_wrongKept 35 [.iconst 0] = true := by decide +kernel
theorem d_c11_wrongKept_36 : decode cX11_wrongKept 36 = .ok (.goto 5, 3) := by decide +kernel
theorem b_c11_wrongKept_20_1 : bdec cX11_wrongKept 20 [.bipush (-11)] = true := by decide +kernel
theorem d_c11_wrongKept_22 : decode cX11_wrongKept 22 = .ok (.goto 19, 3) := by decide +kernel
theorem b_c11_wrongKept_7_1 : bdec cX11_wrongKept 7 [.iconst (-1)] = true := by decide +kernel
theorem d_c11_wrongKept_8 : decode cX11_wrongKept 8 = .ok (.goto 33, 3) := by decide +kernel
def f11_wrongKept (s0 : HM) (a0 : Nat) (p1 : Int32) : Option (Int32) := obd (f11_isShelf p1) (fun v2 => if v2 = 0 then (some (Int32.ofInt (-1))) else (obd (hfld s0 [11] 4 a0) (fun v4 => orf v4 (fun b5 => obd (hald s0 b5 p1) (fun v6 => if v6 = 0 then (some ((Int8.ofInt (-11)).toInt32)) else (obd (hfld s0 [11] 4 a0) (fun v8 => orf v8 (fun b9 => obd (hald s0 b9 p1) (fun v10 => if v10 = (Int32.ofInt 1) then (some (Int32.ofInt 0)) else (some ((Int8.ofInt (-12)).toInt32)))))))))))
set_option maxRecDepth 100000 in
set_option maxHeartbeats 4000000 in
theorem c11_wrongKept (l : Launch) (κ : KP) (A : Nat → Prop) (s0 : HM) (a0 : Nat) (p1 : Int32) {res : Int32} (hF : f11_wrongKept s0 a0 p1 = some res) : Met l yX11_wrongKept (Cond.code yX11_wrongKept cX11_wrongKept 2 (some .int) :: WT) (rmL 2 0 0) (PP κ A [.ref a0, .int p1] (HS κ A s0)) (QQ (some (.int res)) (HS κ A s0) A) 0 0 A := by
  refine met_of (own := RX11) (by decide) rfl (Nat.le_of_ble_eq_true rfl) ?_
  intro Γ E hQ hL hR hA hent hini
  have hAA : ∀ q, A q → jA Γ q := fun q h => by rw [hA]; exact h
  have hroom : ∀ (d mL : Nat) {mc ms : Nat}, d < 2 → mL ≤ 21 → (rmL d mc ms).frames + 1 ≤ (jR Γ).frames ∧ 8 + (mL + 11) + (rmL d mc ms).locals ≤ (jR Γ).locals := fun d mL mc ms h1 h2 => by rw [hR]; exact rmL_le h1 h2
  show J Γ 2 (HS κ A s0) 0 0 0 [(0, .ref a0), (1, .int p1)] []
  unfold f11_wrongKept at hF
  refine j_blk (pc' := 1) (lv' := [(0, .ref a0), (1, .int p1)]) (st' := [.int p1]) E b_c11_wrongKept_0_1 rfl ?_
  replace hF := obd_at hF
  obtain ⟨v2, he1, hF⟩ := hF
  refine j_calls [.int p1] [] E w_RX11_131 (hroom 1 1 (by decide) (by decide)) hAA (c11_isShelf _ κ A (HS κ A s0) _  he1) (fun _ h => h) (fun _ _ _ h _ _ => h) rfl rfl (Nat.le_of_ble_eq_true rfl) d_c11_wrongKept_1 ⟨Nat.zero_le _, Nat.zero_le _⟩ ?_
  refine j_if_ne (tgt := 11) E d_c11_wrongKept_4 (by decide) (fun h3 => ?_) (fun h3 => ?_)
  · replace hF := g_f hF h3
    refine j_blk (pc' := 12) (lv' := [(0, .ref a0), (1, .int p1)]) (st' := [.ref a0]) E b_c11_wrongKept_11_1 rfl ?_
    replace hF := obd_at hF
    obtain ⟨v4, ev4, hF⟩ := hF
    refine j_getf E fg_RX11_22 d_c11_wrongKept_12 ev4 ?_
    refine j_blk (pc' := 16) (lv' := [(0, .ref a0), (1, .int p1)]) (st' := [.int p1, v4]) E b_c11_wrongKept_15_1 rfl ?_
    replace hF := orf_at hF
    obtain ⟨b5, rfl, hF⟩ := hF
    replace hF := obd_at hF
    obtain ⟨v6, ev6, hF⟩ := hF
    refine j_iald E d_c11_wrongKept_16 ev6 ?_
    refine j_if_ne (tgt := 25) E d_c11_wrongKept_17 (by decide) (fun h7 => ?_) (fun h7 => ?_)
    · replace hF := g_f hF h7
      refine j_blk (pc' := 26) (lv' := [(0, .ref a0), (1, .int p1)]) (st' := [.ref a0]) E b_c11_wrongKept_25_1 rfl ?_
      replace hF := obd_at hF
      obtain ⟨v8, ev8, hF⟩ := hF
      refine j_getf E fg_RX11_22 d_c11_wrongKept_26 ev8 ?_
      refine j_blk (pc' := 30) (lv' := [(0, .ref a0), (1, .int p1)]) (st' := [.int p1, v8]) E b_c11_wrongKept_29_1 rfl ?_
      replace hF := orf_at hF
      obtain ⟨b9, rfl, hF⟩ := hF
      replace hF := obd_at hF
      obtain ⟨v10, ev10, hF⟩ := hF
      refine j_iald E d_c11_wrongKept_30 ev10 ?_
      refine j_blk (pc' := 32) (lv' := [(0, .ref a0), (1, .int p1)]) (st' := [.int (Int32.ofInt 1), .int v10]) E b_c11_wrongKept_31_1 rfl ?_
      refine j_icmp_ne (tgt := 39) E d_c11_wrongKept_32 (by decide) (fun h11 => ?_) (fun h11 => ?_)
      · replace hF := g_f hF h11
        refine j_blk (pc' := 41) (lv' := [(0, .ref a0), (1, .int p1)]) (st' := [.int ((Int8.ofInt (-12)).toInt32)]) E b_c11_wrongKept_39_1 rfl ?_
        have e : res = (Int8.ofInt (-12)).toInt32 := g_inj hF
        subst e
        exact j_iret E hQ d_c11_wrongKept_41 (fun _ h => h)
      · replace hF := g_t hF h11
        refine j_blk (pc' := 36) (lv' := [(0, .ref a0), (1, .int p1)]) (st' := [.int (Int32.ofInt 0)]) E b_c11_wrongKept_35_1 rfl ?_
        refine j_goto (tgt := 41) E d_c11_wrongKept_36 (by decide) ?_
        have e : res = Int32.ofInt 0 := g_inj hF
        subst e
        exact j_iret E hQ d_c11_wrongKept_41 (fun _ h => h)
    · replace hF := g_t hF h7
      refine j_blk (pc' := 22) (lv' := [(0, .ref a0), (1, .int p1)]) (st' := [.int ((Int8.ofInt (-11)).toInt32)]) E b_c11_wrongKept_20_1 rfl ?_
      refine j_goto (tgt := 41) E d_c11_wrongKept_22 (by decide) ?_
      have e : res = (Int8.ofInt (-11)).toInt32 := g_inj hF
      subst e
      exact j_iret E hQ d_c11_wrongKept_41 (fun _ h => h)
  · replace hF := g_t hF h3
    refine j_blk (pc' := 8) (lv' := [(0, .ref a0), (1, .int p1)]) (st' := [.int (Int32.ofInt (-1))]) E b_c11_wrongKept_7_1 rfl ?_
    refine j_goto (tgt := 41) E d_c11_wrongKept_8 (by decide) ?_
    have e : res = Int32.ofInt (-1) := g_inj hF
    subst e
    exact j_iret E hQ d_c11_wrongKept_41 (fun _ h => h)
theorem b_c11_law_0_1 : bdec cX11_law 0 [.iload_n 1] = true := by decide +kernel
theorem d_c11_law_1 : decode cX11_law 1 = .ok (.invokestatic 124, 3) := by decide +kernel
theorem d_c11_law_4 : decode cX11_law 4 = .ok (.ifCond .ne 5, 3) := by decide +kernel
theorem b_c11_law_9_1 : bdec cX11_law 9 [.aload_n 0] = true := by decide +kernel
theorem d_c11_law_10 : decode cX11_law 10 = .ok (.getfield 9, 3) := by decide +kernel
theorem b_c11_law_13_1 : bdec cX11_law 13 [.iconst 1] = true := by decide +kernel
theorem d_c11_law_14 : decode cX11_law 14 = .ok (.iaload, 1) := by decide +kernel
theorem b_c11_law_15_2 : bdec cX11_law 15 [.istore_n 2, .aload_n 0] = true := by decide +kernel
theorem d_c11_law_17 : decode cX11_law 17 = .ok (.getfield 9, 3) := by decide +kernel
theorem b_c11_law_20_2 : bdec cX11_law 20 [.iconst 1, .iload_n 1] = true := by decide +kernel
theorem d_c11_law_22 : decode cX11_law 22 = .ok (.iastore, 1) := by decide +kernel
theorem b_c11_law_23_1 : bdec cX11_law 23 [.iload_n 2] = true := by decide +kernel
theorem d_c11_law_24 : decode cX11_law 24 = .ok (.ireturn, 1) := by decide +kernel
theorem b_c11_law_7_1 : bdec cX11_law 7 [.iconst (-1)] = true := by decide +kernel
theorem d_c11_law_8 : decode cX11_law 8 = .ok (.ireturn, 1) := by decide +kernel
def f11_law (s0 : HM) (a0 : Nat) (p1 : Int32) : Option (Int32 × HM) := obd (f11_isLaw p1) (fun v2 => if v2 = 0 then (some (Int32.ofInt (-1), s0)) else (obd (hfld s0 [11] 0 a0) (fun v4 => orf v4 (fun b5 => obd (hald s0 b5 (Int32.ofInt 1)) (fun v6 => obd (hfld s0 [11] 0 a0) (fun v7 => orf v7 (fun b8 => obd (hast s0 b8 (Int32.ofInt 1) p1) (fun s9 => some (v6, s9)))))))))
set_option maxRecDepth 100000 in
set_option maxHeartbeats 4000000 in
theorem c11_law (l : Launch) (κ : KP) (A : Nat → Prop) (s0 : HM) (a0 : Nat) (p1 : Int32) {res : Int32 × HM} (hF : f11_law s0 a0 p1 = some res) : Met l yX11_law (Cond.code yX11_law cX11_law 3 (some .int) :: WT) (rmL 2 0 0) (PP κ A [.ref a0, .int p1] (HS κ A s0)) (QQ (some (.int res.1)) (HS κ A res.2) A) 0 0 A := by
  refine met_of (own := RX11) (by decide) rfl (Nat.le_of_ble_eq_true rfl) ?_
  intro Γ E hQ hL hR hA hent hini
  have hAA : ∀ q, A q → jA Γ q := fun q h => by rw [hA]; exact h
  have hroom : ∀ (d mL : Nat) {mc ms : Nat}, d < 2 → mL ≤ 21 → (rmL d mc ms).frames + 1 ≤ (jR Γ).frames ∧ 8 + (mL + 11) + (rmL d mc ms).locals ≤ (jR Γ).locals := fun d mL mc ms h1 h2 => by rw [hR]; exact rmL_le h1 h2
  show J Γ 3 (HS κ A s0) 0 0 0 [(0, .ref a0), (1, .int p1)] []
  unfold f11_law at hF
  refine j_blk (pc' := 1) (lv' := [(0, .ref a0), (1, .int p1)]) (st' := [.int p1]) E b_c11_law_0_1 rfl ?_
  replace hF := obd_at hF
  obtain ⟨v2, he1, hF⟩ := hF
  refine j_calls [.int p1] [] E w_RX11_124 (hroom 1 1 (by decide) (by decide)) hAA (c11_isLaw _ κ A (HS κ A s0) _  he1) (fun _ h => h) (fun _ _ _ h _ _ => h) rfl rfl (Nat.le_of_ble_eq_true rfl) d_c11_law_1 ⟨Nat.zero_le _, Nat.zero_le _⟩ ?_
  refine j_if_ne (tgt := 9) E d_c11_law_4 (by decide) (fun h3 => ?_) (fun h3 => ?_)
  · replace hF := g_f hF h3
    refine j_blk (pc' := 10) (lv' := [(0, .ref a0), (1, .int p1)]) (st' := [.ref a0]) E b_c11_law_9_1 rfl ?_
    replace hF := obd_at hF
    obtain ⟨v4, ev4, hF⟩ := hF
    refine j_getf E fg_RX11_9 d_c11_law_10 ev4 ?_
    refine j_blk (pc' := 14) (lv' := [(0, .ref a0), (1, .int p1)]) (st' := [.int (Int32.ofInt 1), v4]) E b_c11_law_13_1 rfl ?_
    replace hF := orf_at hF
    obtain ⟨b5, rfl, hF⟩ := hF
    replace hF := obd_at hF
    obtain ⟨v6, ev6, hF⟩ := hF
    refine j_iald E d_c11_law_14 ev6 ?_
    refine j_blk (pc' := 17) (lv' := [(2, .int v6), (0, .ref a0), (1, .int p1)]) (st' := [.ref a0]) E b_c11_law_15_2 rfl ?_
    replace hF := obd_at hF
    obtain ⟨v7, ev7, hF⟩ := hF
    refine j_getf E fg_RX11_9 d_c11_law_17 ev7 ?_
    refine j_blk (pc' := 22) (lv' := [(2, .int v6), (0, .ref a0), (1, .int p1)]) (st' := [.int p1, .int (Int32.ofInt 1), v7]) E b_c11_law_20_2 rfl ?_
    replace hF := orf_at hF
    obtain ⟨b8, rfl, hF⟩ := hF
    replace hF := obd_at hF
    obtain ⟨s9, es9, hF⟩ := hF
    refine j_iast E d_c11_law_22 es9 hAA ?_
    refine j_blk (pc' := 24) (lv' := [(2, .int v6), (0, .ref a0), (1, .int p1)]) (st' := [.int v6]) E b_c11_law_23_1 rfl ?_
    have e : res = (v6, s9) := g_inj hF
    subst e
    exact j_iret E hQ d_c11_law_24 (fun _ h => h)
  · replace hF := g_t hF h3
    refine j_blk (pc' := 8) (lv' := [(0, .ref a0), (1, .int p1)]) (st' := [.int (Int32.ofInt (-1))]) E b_c11_law_7_1 rfl ?_
    have e : res = (Int32.ofInt (-1), s0) := g_inj hF
    subst e
    exact j_iret E hQ d_c11_law_8 (fun _ h => h)
theorem b_c11_plays_0_4 : bdec cX11_plays 0 [.iconst 0, .istore_n 2, .iconst 0, .istore_n 3] = true := by decide +kernel
theorem b_c11_plays_4_2 : bdec cX11_plays 4 [.iload_n 3, .aload_n 0] = true := by decide +kernel
theorem d_c11_plays_6 : decode cX11_plays 6 = .ok (.getfield 9, 3) := by decide +kernel
theorem b_c11_plays_9_1 : bdec cX11_plays 9 [.iconst 0] = true := by decide +kernel
theorem d_c11_plays_10 : decode cX11_plays 10 = .ok (.iaload, 1) := by decide +kernel
theorem d_c11_plays_11 : decode cX11_plays 11 = .ok (.if_icmp .ge 60, 3) := by decide +kernel
theorem b_c11_plays_14_4 : bdec cX11_plays 14 [.iload_n 3, .iconst 1, .iadd, .istore 4] = true := by decide +kernel
theorem b_c11_plays_19_2 : bdec cX11_plays 19 [.iload 4, .aload_n 0] = true := by decide +kernel
theorem d_c11_plays_22 : decode cX11_plays 22 = .ok (.getfield 9, 3) := by decide +kernel
theorem b_c11_plays_25_1 : bdec cX11_plays 25 [.iconst 0] = true := by decide +kernel
theorem d_c11_plays_26 : decode cX11_plays 26 = .ok (.iaload, 1) := by decide +kernel
theorem d_c11_plays_27 : decode cX11_plays 27 = .ok (.if_icmp .ge 38, 3) := by decide +kernel
theorem b_c11_plays_30_6 : bdec cX11_plays 30 [.iload_n 1, .iload_n 2, .ishr, .iconst 1, .iand, .iconst 1] = true := by decide +kernel
theorem d_c11_plays_36 : decode cX11_plays 36 = .ok (.if_icmp .ne 13, 3) := by decide +kernel
theorem b_c11_plays_49_3 : bdec cX11_plays 49 [.aload_n 0, .iload 4, .iload_n 3] = true := by decide +kernel
theorem d_c11_plays_53 : decode cX11_plays 53 = .ok (.invokevirtual 84, 3) := by decide +kernel
theorem b_c11_plays_56_2 : bdec cX11_plays 56 [.iinc 2 1, .iinc 4 1] = true := by decide +kernel
theorem d_c11_plays_62 : decode cX11_plays 62 = .ok (.goto (-43), 3) := by decide +kernel
theorem b_c11_plays_39_3 : bdec cX11_plays 39 [.aload_n 0, .iload_n 3, .iload 4] = true := by decide +kernel
theorem d_c11_plays_43 : decode cX11_plays 43 = .ok (.invokevirtual 84, 3) := by decide +kernel
theorem d_c11_plays_46 : decode cX11_plays 46 = .ok (.goto 10, 3) := by decide +kernel
theorem b_c11_plays_65_1 : bdec cX11_plays 65 [.iinc 3 1] = true := by decide +kernel
theorem d_c11_plays_68 : decode cX11_plays 68 = .ok (.goto (-64), 3) := by decide +kernel
theorem d_c11_plays_71 : decode cX11_plays 71 = .ok (.return_, 1) := by decide +kernel
def f11_plays_L19 (a0 : Nat) (p1 : Int32) (x4_3 : Int32) (w : Int32 × Int32 × HM) : Option ((Int32 × Int32 × HM) ⊕ (Int32 × HM)) := match w with
  | (x19_2, x19_4, s19) => obd (hfld s19 [11] 0 a0) (fun v7 => orf v7 (fun b8 => obd (hald s19 b8 (Int32.ofInt 0)) (fun v9 => if v9 ≤ x19_4 then (some (.inr (x19_2, s19))) else (if ((p1 >>> (x19_2 &&& 31)) &&& (Int32.ofInt 1)) = (Int32.ofInt 1) then (ocl s19 a0 11 (obd (f11_beats s19 a0 x4_3 x19_4) (fun s15 => some (.inl (x19_2 + Int32.ofInt 1, x19_4 + Int32.ofInt 1, s15))))) else (ocl s19 a0 11 (obd (f11_beats s19 a0 x19_4 x4_3) (fun s13 => some (.inl (x19_2 + Int32.ofInt 1, x19_4 + Int32.ofInt 1, s13)))))))))
def f11_plays_L4 (a0 : Nat) (p1 : Int32) (w : Int32 × Int32 × HM) : Option ((Int32 × Int32 × HM) ⊕ (HM)) := match w with
  | (x4_2, x4_3, s4) => obd (hfld s4 [11] 0 a0) (fun v2 => orf v2 (fun b3 => obd (hald s4 b3 (Int32.ofInt 0)) (fun v4 => if v4 ≤ x4_3 then (some (.inr s4)) else (obd (iter (f11_plays_L19 a0 p1 x4_3) FU (x4_2, x4_3 + (Int32.ofInt 1), s4)) (fun o6 => match o6 with | (e19_2, t19) => some (.inl (e19_2, x4_3 + Int32.ofInt 1, t19)))))))
def f11_plays (s0 : HM) (a0 : Nat) (p1 : Int32) : Option (HM) := obd (iter (f11_plays_L4 a0 p1) FU (Int32.ofInt 0, Int32.ofInt 0, s0)) (fun o1 => match o1 with | t4 => some t4)
set_option maxRecDepth 100000 in
set_option maxHeartbeats 4000000 in
theorem c11_plays (l : Launch) (κ : KP) (A : Nat → Prop) (s0 : HM) (a0 : Nat) (p1 : Int32) {res : HM} (hF : f11_plays s0 a0 p1 = some res) : Met l yX11_plays (Cond.code yX11_plays cX11_plays 5 none :: WT) (rmL 2 0 0) (PP κ A [.ref a0, .int p1] (HS κ A s0)) (QQ none (HS κ A res) A) 0 0 A := by
  refine met_of (own := RX11) (by decide) rfl (Nat.le_of_ble_eq_true rfl) ?_
  intro Γ E hQ hL hR hA hent hini
  have hAA : ∀ q, A q → jA Γ q := fun q h => by rw [hA]; exact h
  have hroom : ∀ (d mL : Nat) {mc ms : Nat}, d < 2 → mL ≤ 21 → (rmL d mc ms).frames + 1 ≤ (jR Γ).frames ∧ 8 + (mL + 11) + (rmL d mc ms).locals ≤ (jR Γ).locals := fun d mL mc ms h1 h2 => by rw [hR]; exact rmL_le h1 h2
  show J Γ 5 (HS κ A s0) 0 0 0 [(0, .ref a0), (1, .int p1)] []
  unfold f11_plays at hF
  refine j_blk (pc' := 4) (lv' := [(3, .int (Int32.ofInt 0)), (2, .int (Int32.ofInt 0)), (0, .ref a0), (1, .int p1)]) (st' := []) E b_c11_plays_0_4 rfl ?_
  refine j_lv [2, 3, 1, 0] rfl ?_
  replace hF := obd_at hF
  obtain ⟨o1, ho1, hF⟩ := hF
  have lpo1 : ∀ (fu : Nat) (w : Int32 × Int32 × HM) (o : HM), iter (f11_plays_L4 a0 p1) fu w = some o → (fun (o : HM) => J Γ 5 (HS κ A o) 0 0 71 [] []) o → (fun (w : Int32 × Int32 × HM) => J Γ 5 (HS κ A w.2.2) 0 0 4 [(0, .ref a0), (1, .int p1), (2, .int w.1), (3, .int w.2.1)] []) w := by
    refine j_iter (P := fun (w : Int32 × Int32 × HM) => J Γ 5 (HS κ A w.2.2) 0 0 4 [(0, .ref a0), (1, .int p1), (2, .int w.1), (3, .int w.2.1)] []) (G := fun (o : HM) => J Γ 5 (HS κ A o) 0 0 71 [] []) ?_
    rintro ⟨x4_2, x4_3, s4⟩ q hF hI hO
    show J Γ 5 (HS κ A s4) 0 0 4 [(0, .ref a0), (1, .int p1), (2, .int x4_2), (3, .int x4_3)] []
    unfold f11_plays_L4 at hF
    refine j_blk (pc' := 6) (lv' := [(0, .ref a0), (1, .int p1), (2, .int x4_2), (3, .int x4_3)]) (st' := [.ref a0, .int x4_3]) E b_c11_plays_4_2 rfl ?_
    replace hF := obd_at hF
    obtain ⟨v2, ev2, hF⟩ := hF
    refine j_getf E fg_RX11_9 d_c11_plays_6 ev2 ?_
    refine j_blk (pc' := 10) (lv' := [(0, .ref a0), (1, .int p1), (2, .int x4_2), (3, .int x4_3)]) (st' := [.int (Int32.ofInt 0), v2, .int x4_3]) E b_c11_plays_9_1 rfl ?_
    replace hF := orf_at hF
    obtain ⟨b3, rfl, hF⟩ := hF
    replace hF := obd_at hF
    obtain ⟨v4, ev4, hF⟩ := hF
    refine j_iald E d_c11_plays_10 ev4 ?_
    refine j_icmp_ge (tgt := 71) E d_c11_plays_11 (by decide) (fun h5 => ?_) (fun h5 => ?_)
    · replace hF := g_t hF h5
      refine j_lv [] rfl ?_
      exact hO _ (g_inj hF)
    · replace hF := g_f hF h5
      refine j_blk (pc' := 19) (lv' := [(4, .int (x4_3 + (Int32.ofInt 1))), (0, .ref a0), (1, .int p1), (2, .int x4_2), (3, .int x4_3)]) (st' := []) E b_c11_plays_14_4 rfl ?_
      refine j_lv [1, 2, 3, 4, 0] rfl ?_
      replace hF := obd_at hF
      obtain ⟨o6, ho6, hF⟩ := hF
      have lpo6 : ∀ (fu : Nat) (w : Int32 × Int32 × HM) (o : Int32 × HM), iter (f11_plays_L19 a0 p1 x4_3) fu w = some o → (fun (o : Int32 × HM) => J Γ 5 (HS κ A o.2) 0 0 65 [(0, .ref a0), (1, .int p1), (2, .int o.1), (3, .int x4_3)] []) o → (fun (w : Int32 × Int32 × HM) => J Γ 5 (HS κ A w.2.2) 0 0 19 [(0, .ref a0), (1, .int p1), (2, .int w.1), (3, .int x4_3), (4, .int w.2.1)] []) w := by
        refine j_iter (P := fun (w : Int32 × Int32 × HM) => J Γ 5 (HS κ A w.2.2) 0 0 19 [(0, .ref a0), (1, .int p1), (2, .int w.1), (3, .int x4_3), (4, .int w.2.1)] []) (G := fun (o : Int32 × HM) => J Γ 5 (HS κ A o.2) 0 0 65 [(0, .ref a0), (1, .int p1), (2, .int o.1), (3, .int x4_3)] []) ?_
        rintro ⟨x19_2, x19_4, s19⟩ q hF hI hO
        show J Γ 5 (HS κ A s19) 0 0 19 [(0, .ref a0), (1, .int p1), (2, .int x19_2), (3, .int x4_3), (4, .int x19_4)] []
        unfold f11_plays_L19 at hF
        refine j_blk (pc' := 22) (lv' := [(0, .ref a0), (1, .int p1), (2, .int x19_2), (3, .int x4_3), (4, .int x19_4)]) (st' := [.ref a0, .int x19_4]) E b_c11_plays_19_2 rfl ?_
        replace hF := obd_at hF
        obtain ⟨v7, ev7, hF⟩ := hF
        refine j_getf E fg_RX11_9 d_c11_plays_22 ev7 ?_
        refine j_blk (pc' := 26) (lv' := [(0, .ref a0), (1, .int p1), (2, .int x19_2), (3, .int x4_3), (4, .int x19_4)]) (st' := [.int (Int32.ofInt 0), v7, .int x19_4]) E b_c11_plays_25_1 rfl ?_
        replace hF := orf_at hF
        obtain ⟨b8, rfl, hF⟩ := hF
        replace hF := obd_at hF
        obtain ⟨v9, ev9, hF⟩ := hF
        refine j_iald E d_c11_plays_26 ev9 ?_
        refine j_icmp_ge (tgt := 65) E d_c11_plays_27 (by decide) (fun h10 => ?_) (fun h10 => ?_)
        · replace hF := g_t hF h10
          refine j_lv [0, 1, 2, 3] rfl ?_
          exact hO _ (g_inj hF)
        · replace hF := g_f hF h10
          refine j_blk (pc' := 36) (lv' := [(0, .ref a0), (1, .int p1), (2, .int x19_2), (3, .int x4_3), (4, .int x19_4)]) (st' := [.int (Int32.ofInt 1), .int ((p1 >>> (x19_2 &&& 31)) &&& (Int32.ofInt 1))]) E b_c11_plays_30_6 rfl ?_
          refine j_icmp_ne (tgt := 49) E d_c11_plays_36 (by decide) (fun h11 => ?_) (fun h11 => ?_)
          · replace hF := g_f hF h11
            refine j_blk (pc' := 53) (lv' := [(0, .ref a0), (1, .int p1), (2, .int x19_2), (3, .int x4_3), (4, .int x19_4)]) (st' := [.int x4_3, .int x19_4, .ref a0]) E b_c11_plays_49_3 rfl ?_
            replace hF := ocl_at hF
            obtain ⟨hc, hF⟩ := hF
            replace hF := obd_at hF
            obtain ⟨s13, he12, hF⟩ := hF
            refine j_callv [.int x19_4, .int x4_3] [] E w_RX11_84 (hroom 1 3 (by decide) (by decide)) hAA (c11_beats _ κ A _ _ _ _  he12) (fun _ h => h) (fun _ _ _ h _ _ => h) (fun _ h => j_recv E h hc rfl) rfl rfl (Nat.le_of_ble_eq_true rfl) d_c11_plays_53 ⟨Nat.zero_le _, Nat.zero_le _⟩ ?_
            refine j_blk (pc' := 62) (lv' := [(4, .int (x19_4 + Int32.ofInt 1)), (2, .int (x19_2 + Int32.ofInt 1)), (0, .ref a0), (1, .int p1), (3, .int x4_3)]) (st' := []) E b_c11_plays_56_2 rfl ?_
            refine j_goto (tgt := 19) E d_c11_plays_62 (by decide) ?_
            refine j_lv [2, 3, 1, 4, 0] rfl ?_
            exact hI _ (g_inj hF)
          · replace hF := g_t hF h11
            refine j_blk (pc' := 43) (lv' := [(0, .ref a0), (1, .int p1), (2, .int x19_2), (3, .int x4_3), (4, .int x19_4)]) (st' := [.int x19_4, .int x4_3, .ref a0]) E b_c11_plays_39_3 rfl ?_
            replace hF := ocl_at hF
            obtain ⟨hc, hF⟩ := hF
            replace hF := obd_at hF
            obtain ⟨s15, he14, hF⟩ := hF
            refine j_callv [.int x4_3, .int x19_4] [] E w_RX11_84 (hroom 1 3 (by decide) (by decide)) hAA (c11_beats _ κ A _ _ _ _  he14) (fun _ h => h) (fun _ _ _ h _ _ => h) (fun _ h => j_recv E h hc rfl) rfl rfl (Nat.le_of_ble_eq_true rfl) d_c11_plays_43 ⟨Nat.zero_le _, Nat.zero_le _⟩ ?_
            refine j_goto (tgt := 56) E d_c11_plays_46 (by decide) ?_
            refine j_blk (pc' := 62) (lv' := [(4, .int (x19_4 + Int32.ofInt 1)), (2, .int (x19_2 + Int32.ofInt 1)), (0, .ref a0), (1, .int p1), (3, .int x4_3)]) (st' := []) E b_c11_plays_56_2 rfl ?_
            refine j_goto (tgt := 19) E d_c11_plays_62 (by decide) ?_
            refine j_lv [2, 3, 1, 4, 0] rfl ?_
            exact hI _ (g_inj hF)
      refine lpo6 FU (x4_2, x4_3 + (Int32.ofInt 1), s4) o6 ho6 ?_
      obtain ⟨e19_2, t19⟩ := o6
      show J Γ 5 (HS κ A t19) 0 0 65 [(0, .ref a0), (1, .int p1), (2, .int e19_2), (3, .int x4_3)] []
      refine j_blk (pc' := 68) (lv' := [(3, .int (x4_3 + Int32.ofInt 1)), (0, .ref a0), (1, .int p1), (2, .int e19_2)]) (st' := []) E b_c11_plays_65_1 rfl ?_
      refine j_goto (tgt := 4) E d_c11_plays_68 (by decide) ?_
      refine j_lv [1, 2, 3, 0] rfl ?_
      exact hI _ (g_inj hF)
  refine lpo1 FU (Int32.ofInt 0, Int32.ofInt 0, s0) o1 ho1 ?_
  obtain ⟨t4, rfl⟩ : ∃ z, z = o1 := ⟨_, rfl⟩
  show J Γ 5 (HS κ A t4) 0 0 71 [] []
  have e : res = t4 := g_inj hF
  subst e
  exact j_vret E hQ d_c11_plays_71 (fun _ h => h)
theorem b_c11_weightNow_0_4 : bdec cX11_weightNow 0 [.lconst 1, .lstore_n 1, .iconst 0, .istore_n 3] = true := by decide +kernel
theorem b_c11_weightNow_4_2 : bdec cX11_weightNow 4 [.iload_n 3, .aload_n 0] = true := by decide +kernel
theorem d_c11_weightNow_6 : decode cX11_weightNow 6 = .ok (.getfield 9, 3) := by decide +kernel
theorem b_c11_weightNow_9_1 : bdec cX11_weightNow 9 [.iconst 0] = true := by decide +kernel
theorem d_c11_weightNow_10 : decode cX11_weightNow 10 = .ok (.iaload, 1) := by decide +kernel
theorem d_c11_weightNow_11 : decode cX11_weightNow 11 = .ok (.if_icmp .ge 64, 3) := by decide +kernel
theorem b_c11_weightNow_14_4 : bdec cX11_weightNow 14 [.iload_n 3, .iconst 1, .iadd, .istore 4] = true := by decide +kernel
theorem b_c11_weightNow_19_2 : bdec cX11_weightNow 19 [.iload 4, .aload_n 0] = true := by decide +kernel
theorem d_c11_weightNow_22 : decode cX11_weightNow 22 = .ok (.getfield 9, 3) := by decide +kernel
theorem b_c11_weightNow_25_1 : bdec cX11_weightNow 25 [.iconst 0] = true := by decide +kernel
theorem d_c11_weightNow_26 : decode cX11_weightNow 26 = .ok (.iaload, 1) := by decide +kernel
theorem d_c11_weightNow_27 : decode cX11_weightNow 27 = .ok (.if_icmp .ge 42, 3) := by decide +kernel
theorem b_c11_weightNow_30_3 : bdec cX11_weightNow 30 [.lload_n 1, .aload_n 0, .iload_n 3] = true := by decide +kernel
theorem d_c11_weightNow_33 : decode cX11_weightNow 33 = .ok (.invokevirtual 63, 3) := by decide +kernel
theorem b_c11_weightNow_36_5 : bdec cX11_weightNow 36 [.iload 4, .ishr, .iconst 1, .iand, .iconst 1] = true := by decide +kernel
theorem d_c11_weightNow_42 : decode cX11_weightNow 42 = .ok (.if_icmp .ne 12, 3) := by decide +kernel
theorem b_c11_weightNow_54_2 : bdec cX11_weightNow 54 [.aload_n 0, .iload 4] = true := by decide +kernel
theorem d_c11_weightNow_57 : decode cX11_weightNow 57 = .ok (.invokevirtual 144, 3) := by decide +kernel
theorem b_c11_weightNow_60_4 : bdec cX11_weightNow 60 [.i2l, .lmul, .lstore_n 1, .iinc 4 1] = true := by decide +kernel
theorem d_c11_weightNow_66 : decode cX11_weightNow 66 = .ok (.goto (-47), 3) := by decide +kernel
theorem b_c11_weightNow_45_2 : bdec cX11_weightNow 45 [.aload_n 0, .iload_n 3] = true := by decide +kernel
theorem d_c11_weightNow_47 : decode cX11_weightNow 47 = .ok (.invokevirtual 144, 3) := by decide +kernel
theorem b_c11_weightNow_50_1 : bdec cX11_weightNow 50 [.i2l] = true := by decide +kernel
theorem d_c11_weightNow_51 : decode cX11_weightNow 51 = .ok (.goto 10, 3) := by decide +kernel
theorem b_c11_weightNow_61_3 : bdec cX11_weightNow 61 [.lmul, .lstore_n 1, .iinc 4 1] = true := by decide +kernel
theorem b_c11_weightNow_69_1 : bdec cX11_weightNow 69 [.iinc 3 1] = true := by decide +kernel
theorem d_c11_weightNow_72 : decode cX11_weightNow 72 = .ok (.goto (-68), 3) := by decide +kernel
theorem b_c11_weightNow_75_1 : bdec cX11_weightNow 75 [.lload_n 1] = true := by decide +kernel
theorem d_c11_weightNow_76 : decode cX11_weightNow 76 = .ok (.lreturn, 1) := by decide +kernel
def f11_weightNow_L19 (s0 : HM) (a0 : Nat) (x4_3 : Int32) (w : Int64 × Int32) : Option ((Int64 × Int32) ⊕ (Int64)) := match w with
  | (x19_1, x19_4) => obd (hfld s0 [11] 0 a0) (fun v7 => orf v7 (fun b8 => obd (hald s0 b8 (Int32.ofInt 0)) (fun v9 => if v9 ≤ x19_4 then (some (.inr x19_1)) else (ocl s0 a0 11 (obd (f11_beaten s0 a0 x4_3) (fun v12 => if ((v12 >>> (x19_4 &&& 31)) &&& (Int32.ofInt 1)) = (Int32.ofInt 1) then (ocl s0 a0 11 (obd (f11_skill s0 a0 x4_3) (fun v17 => some (.inl (x19_1 * v17.toInt64, x19_4 + Int32.ofInt 1))))) else (ocl s0 a0 11 (obd (f11_skill s0 a0 x19_4) (fun v15 => some (.inl (x19_1 * v15.toInt64, x19_4 + Int32.ofInt 1)))))))))))
def f11_weightNow_L4 (s0 : HM) (a0 : Nat) (w : Int64 × Int32) : Option ((Int64 × Int32) ⊕ (Int64)) := match w with
  | (x4_1, x4_3) => obd (hfld s0 [11] 0 a0) (fun v2 => orf v2 (fun b3 => obd (hald s0 b3 (Int32.ofInt 0)) (fun v4 => if v4 ≤ x4_3 then (some (.inr x4_1)) else (obd (iter (f11_weightNow_L19 s0 a0 x4_3) FU (x4_1, x4_3 + (Int32.ofInt 1))) (fun o6 => match o6 with | e19_1 => some (.inl (e19_1, x4_3 + Int32.ofInt 1)))))))
def f11_weightNow (s0 : HM) (a0 : Nat) : Option (Int64) := obd (iter (f11_weightNow_L4 s0 a0) FU (Int64.ofNat 1, Int32.ofInt 0)) (fun o1 => match o1 with | e4_1 => some e4_1)
set_option maxRecDepth 100000 in
set_option maxHeartbeats 4000000 in
theorem c11_weightNow (l : Launch) (κ : KP) (A : Nat → Prop) (s0 : HM) (a0 : Nat) {res : Int64} (hF : f11_weightNow s0 a0 = some res) : Met l yX11_weightNow (Cond.code yX11_weightNow cX11_weightNow 5 (some .long) :: WT) (rmL 2 0 0) (PP κ A [.ref a0] (HS κ A s0)) (QQ (some (.long res)) (HS κ A s0) A) 0 0 A := by
  refine met_of (own := RX11) (by decide) rfl (Nat.le_of_ble_eq_true rfl) ?_
  intro Γ E hQ hL hR hA hent hini
  have hAA : ∀ q, A q → jA Γ q := fun q h => by rw [hA]; exact h
  have hroom : ∀ (d mL : Nat) {mc ms : Nat}, d < 2 → mL ≤ 21 → (rmL d mc ms).frames + 1 ≤ (jR Γ).frames ∧ 8 + (mL + 11) + (rmL d mc ms).locals ≤ (jR Γ).locals := fun d mL mc ms h1 h2 => by rw [hR]; exact rmL_le h1 h2
  show J Γ 5 (HS κ A s0) 0 0 0 [(0, .ref a0)] []
  unfold f11_weightNow at hF
  refine j_blk (pc' := 4) (lv' := [(3, .int (Int32.ofInt 0)), (1, .long (Int64.ofNat 1)), (0, .ref a0)]) (st' := []) E b_c11_weightNow_0_4 rfl ?_
  refine j_lv [2, 1, 0] rfl ?_
  replace hF := obd_at hF
  obtain ⟨o1, ho1, hF⟩ := hF
  have lpo1 : ∀ (fu : Nat) (w : Int64 × Int32) (o : Int64), iter (f11_weightNow_L4 s0 a0) fu w = some o → (fun (o : Int64) => J Γ 5 (HS κ A s0) 0 0 75 [(1, .long o)] []) o → (fun (w : Int64 × Int32) => J Γ 5 (HS κ A s0) 0 0 4 [(0, .ref a0), (1, .long w.1), (3, .int w.2)] []) w := by
    refine j_iter (P := fun (w : Int64 × Int32) => J Γ 5 (HS κ A s0) 0 0 4 [(0, .ref a0), (1, .long w.1), (3, .int w.2)] []) (G := fun (o : Int64) => J Γ 5 (HS κ A s0) 0 0 75 [(1, .long o)] []) ?_
    rintro ⟨x4_1, x4_3⟩ q hF hI hO
    show J Γ 5 (HS κ A s0) 0 0 4 [(0, .ref a0), (1, .long x4_1), (3, .int x4_3)] []
    unfold f11_weightNow_L4 at hF
    refine j_blk (pc' := 6) (lv' := [(0, .ref a0), (1, .long x4_1), (3, .int x4_3)]) (st' := [.ref a0, .int x4_3]) E b_c11_weightNow_4_2 rfl ?_
    replace hF := obd_at hF
    obtain ⟨v2, ev2, hF⟩ := hF
    refine j_getf E fg_RX11_9 d_c11_weightNow_6 ev2 ?_
    refine j_blk (pc' := 10) (lv' := [(0, .ref a0), (1, .long x4_1), (3, .int x4_3)]) (st' := [.int (Int32.ofInt 0), v2, .int x4_3]) E b_c11_weightNow_9_1 rfl ?_
    replace hF := orf_at hF
    obtain ⟨b3, rfl, hF⟩ := hF
    replace hF := obd_at hF
    obtain ⟨v4, ev4, hF⟩ := hF
    refine j_iald E d_c11_weightNow_10 ev4 ?_
    refine j_icmp_ge (tgt := 75) E d_c11_weightNow_11 (by decide) (fun h5 => ?_) (fun h5 => ?_)
    · replace hF := g_t hF h5
      refine j_lv [1] rfl ?_
      exact hO _ (g_inj hF)
    · replace hF := g_f hF h5
      refine j_blk (pc' := 19) (lv' := [(4, .int (x4_3 + (Int32.ofInt 1))), (0, .ref a0), (1, .long x4_1), (3, .int x4_3)]) (st' := []) E b_c11_weightNow_14_4 rfl ?_
      refine j_lv [1, 2, 3, 0] rfl ?_
      replace hF := obd_at hF
      obtain ⟨o6, ho6, hF⟩ := hF
      have lpo6 : ∀ (fu : Nat) (w : Int64 × Int32) (o : Int64), iter (f11_weightNow_L19 s0 a0 x4_3) fu w = some o → (fun (o : Int64) => J Γ 5 (HS κ A s0) 0 0 69 [(0, .ref a0), (1, .long o), (3, .int x4_3)] []) o → (fun (w : Int64 × Int32) => J Γ 5 (HS κ A s0) 0 0 19 [(0, .ref a0), (1, .long w.1), (3, .int x4_3), (4, .int w.2)] []) w := by
        refine j_iter (P := fun (w : Int64 × Int32) => J Γ 5 (HS κ A s0) 0 0 19 [(0, .ref a0), (1, .long w.1), (3, .int x4_3), (4, .int w.2)] []) (G := fun (o : Int64) => J Γ 5 (HS κ A s0) 0 0 69 [(0, .ref a0), (1, .long o), (3, .int x4_3)] []) ?_
        rintro ⟨x19_1, x19_4⟩ q hF hI hO
        show J Γ 5 (HS κ A s0) 0 0 19 [(0, .ref a0), (1, .long x19_1), (3, .int x4_3), (4, .int x19_4)] []
        unfold f11_weightNow_L19 at hF
        refine j_blk (pc' := 22) (lv' := [(0, .ref a0), (1, .long x19_1), (3, .int x4_3), (4, .int x19_4)]) (st' := [.ref a0, .int x19_4]) E b_c11_weightNow_19_2 rfl ?_
        replace hF := obd_at hF
        obtain ⟨v7, ev7, hF⟩ := hF
        refine j_getf E fg_RX11_9 d_c11_weightNow_22 ev7 ?_
        refine j_blk (pc' := 26) (lv' := [(0, .ref a0), (1, .long x19_1), (3, .int x4_3), (4, .int x19_4)]) (st' := [.int (Int32.ofInt 0), v7, .int x19_4]) E b_c11_weightNow_25_1 rfl ?_
        replace hF := orf_at hF
        obtain ⟨b8, rfl, hF⟩ := hF
        replace hF := obd_at hF
        obtain ⟨v9, ev9, hF⟩ := hF
        refine j_iald E d_c11_weightNow_26 ev9 ?_
        refine j_icmp_ge (tgt := 69) E d_c11_weightNow_27 (by decide) (fun h10 => ?_) (fun h10 => ?_)
        · replace hF := g_t hF h10
          refine j_lv [0, 1, 2] rfl ?_
          exact hO _ (g_inj hF)
        · replace hF := g_f hF h10
          refine j_blk (pc' := 33) (lv' := [(0, .ref a0), (1, .long x19_1), (3, .int x4_3), (4, .int x19_4)]) (st' := [.int x4_3, .ref a0, .long x19_1]) E b_c11_weightNow_30_3 rfl ?_
          replace hF := ocl_at hF
          obtain ⟨hc, hF⟩ := hF
          replace hF := obd_at hF
          obtain ⟨v12, he11, hF⟩ := hF
          refine j_callv [.int x4_3] [.long x19_1] E w_RX11_63 (hroom 0 2 (by decide) (by decide)) hAA (c11_beaten _ κ A _ _ _  he11) (fun _ h => h) (fun _ _ _ h _ _ => h) (fun _ h => j_recv E h hc rfl) rfl rfl (Nat.le_of_ble_eq_true rfl) d_c11_weightNow_33 ⟨Nat.zero_le _, Nat.zero_le _⟩ ?_
          refine j_blk (pc' := 42) (lv' := [(0, .ref a0), (1, .long x19_1), (3, .int x4_3), (4, .int x19_4)]) (st' := [.int (Int32.ofInt 1), .int ((v12 >>> (x19_4 &&& 31)) &&& (Int32.ofInt 1)), .long x19_1]) E b_c11_weightNow_36_5 rfl ?_
          refine j_icmp_ne (tgt := 54) E d_c11_weightNow_42 (by decide) (fun h13 => ?_) (fun h13 => ?_)
          · replace hF := g_f hF h13
            refine j_blk (pc' := 57) (lv' := [(0, .ref a0), (1, .long x19_1), (3, .int x4_3), (4, .int x19_4)]) (st' := [.int x19_4, .ref a0, .long x19_1]) E b_c11_weightNow_54_2 rfl ?_
            replace hF := ocl_at hF
            obtain ⟨hc, hF⟩ := hF
            replace hF := obd_at hF
            obtain ⟨v15, he14, hF⟩ := hF
            refine j_callv [.int x19_4] [.long x19_1] E w_RX11_144 (hroom 1 2 (by decide) (by decide)) hAA (c11_skill _ κ A _ _ _  he14) (fun _ h => h) (fun _ _ _ h _ _ => h) (fun _ h => j_recv E h hc rfl) rfl rfl (Nat.le_of_ble_eq_true rfl) d_c11_weightNow_57 ⟨Nat.zero_le _, Nat.zero_le _⟩ ?_
            refine j_blk (pc' := 66) (lv' := [(4, .int (x19_4 + Int32.ofInt 1)), (1, .long (x19_1 * v15.toInt64)), (0, .ref a0), (3, .int x4_3)]) (st' := []) E b_c11_weightNow_60_4 rfl ?_
            refine j_goto (tgt := 19) E d_c11_weightNow_66 (by decide) ?_
            refine j_lv [2, 1, 3, 0] rfl ?_
            exact hI _ (g_inj hF)
          · replace hF := g_t hF h13
            refine j_blk (pc' := 47) (lv' := [(0, .ref a0), (1, .long x19_1), (3, .int x4_3), (4, .int x19_4)]) (st' := [.int x4_3, .ref a0, .long x19_1]) E b_c11_weightNow_45_2 rfl ?_
            replace hF := ocl_at hF
            obtain ⟨hc, hF⟩ := hF
            replace hF := obd_at hF
            obtain ⟨v17, he16, hF⟩ := hF
            refine j_callv [.int x4_3] [.long x19_1] E w_RX11_144 (hroom 1 2 (by decide) (by decide)) hAA (c11_skill _ κ A _ _ _  he16) (fun _ h => h) (fun _ _ _ h _ _ => h) (fun _ h => j_recv E h hc rfl) rfl rfl (Nat.le_of_ble_eq_true rfl) d_c11_weightNow_47 ⟨Nat.zero_le _, Nat.zero_le _⟩ ?_
            refine j_blk (pc' := 51) (lv' := [(0, .ref a0), (1, .long x19_1), (3, .int x4_3), (4, .int x19_4)]) (st' := [.long v17.toInt64, .long x19_1]) E b_c11_weightNow_50_1 rfl ?_
            refine j_goto (tgt := 61) E d_c11_weightNow_51 (by decide) ?_
            refine j_blk (pc' := 66) (lv' := [(4, .int (x19_4 + Int32.ofInt 1)), (1, .long (x19_1 * v17.toInt64)), (0, .ref a0), (3, .int x4_3)]) (st' := []) E b_c11_weightNow_61_3 rfl ?_
            refine j_goto (tgt := 19) E d_c11_weightNow_66 (by decide) ?_
            refine j_lv [2, 1, 3, 0] rfl ?_
            exact hI _ (g_inj hF)
      refine lpo6 FU (x4_1, x4_3 + (Int32.ofInt 1)) o6 ho6 ?_
      obtain ⟨e19_1, rfl⟩ : ∃ z, z = o6 := ⟨_, rfl⟩
      show J Γ 5 (HS κ A s0) 0 0 69 [(0, .ref a0), (1, .long e19_1), (3, .int x4_3)] []
      refine j_blk (pc' := 72) (lv' := [(3, .int (x4_3 + Int32.ofInt 1)), (0, .ref a0), (1, .long e19_1)]) (st' := []) E b_c11_weightNow_69_1 rfl ?_
      refine j_goto (tgt := 4) E d_c11_weightNow_72 (by decide) ?_
      refine j_lv [1, 2, 0] rfl ?_
      exact hI _ (g_inj hF)
  refine lpo1 FU (Int64.ofNat 1, Int32.ofInt 0) o1 ho1 ?_
  obtain ⟨e4_1, rfl⟩ : ∃ z, z = o1 := ⟨_, rfl⟩
  show J Γ 5 (HS κ A s0) 0 0 75 [(1, .long e4_1)] []
  refine j_blk (pc' := 76) (lv' := [(1, .long e4_1)]) (st' := [.long e4_1]) E b_c11_weightNow_75_1 rfl ?_
  have e : res = e4_1 := g_inj hF
  subst e
  exact j_lret E hQ d_c11_weightNow_76 (fun _ h => h)
theorem b_c11_round_0_1 : bdec cX11_round 0 [.iload_n 1] = true := by decide +kernel
theorem d_c11_round_1 : decode cX11_round 1 = .ok (.invokestatic 211, 3) := by decide +kernel
theorem d_c11_round_4 : decode cX11_round 4 = .ok (.ifCond .eq 10, 3) := by decide +kernel
theorem b_c11_round_14_1 : bdec cX11_round 14 [.iconst (-1)] = true := by decide +kernel
theorem d_c11_round_15 : decode cX11_round 15 = .ok (.ireturn, 1) := by decide +kernel
theorem b_c11_round_7_1 : bdec cX11_round 7 [.iload_n 3] = true := by decide +kernel
theorem d_c11_round_8 : decode cX11_round 8 = .ok (.invokestatic 124, 3) := by decide +kernel
theorem d_c11_round_11 : decode cX11_round 11 = .ok (.ifCond .ne 5, 3) := by decide +kernel
theorem b_c11_round_16_2 : bdec cX11_round 16 [.iload_n 1, .iload_n 2] = true := by decide +kernel
theorem d_c11_round_18 : decode cX11_round 18 = .ok (.invokestatic 214, 3) := by decide +kernel
theorem d_c11_round_21 : decode cX11_round 21 = .ok (.ifCond .ne 8, 3) := by decide +kernel
theorem b_c11_round_29_3 : bdec cX11_round 29 [.iload_n 1, .iload_n 2, .iload_n 3] = true := by decide +kernel
theorem d_c11_round_32 : decode cX11_round 32 = .ok (.invokestatic 217, 3) := by decide +kernel
theorem d_c11_round_35 : decode cX11_round 35 = .ok (.ifCond .eq 7, 3) := by decide +kernel
theorem b_c11_round_42_1 : bdec cX11_round 42 [.iconst 0] = true := by decide +kernel
theorem d_c11_round_43 : decode cX11_round 43 = .ok (.ireturn, 1) := by decide +kernel
theorem b_c11_round_38_1 : bdec cX11_round 38 [.iconst 1] = true := by decide +kernel
theorem d_c11_round_39 : decode cX11_round 39 = .ok (.goto 4, 3) := by decide +kernel
theorem b_c11_round_24_1 : bdec cX11_round 24 [.bipush (-3)] = true := by decide +kernel
theorem d_c11_round_26 : decode cX11_round 26 = .ok (.goto 17, 3) := by decide +kernel
def f11_round (s0 : HM) (a0 : Nat) (p1 : Int32) (p2 : Int32) (p3 : Int32) : Option (Int32) := obd (f11_isRound p1) (fun v2 => if v2 = 0 then (some (Int32.ofInt (-1))) else (obd (f11_isLaw p3) (fun v5 => if v5 = 0 then (some (Int32.ofInt (-1))) else (obd (f11_isSet p1 p2) (fun v8 => if v8 = 0 then (some ((Int8.ofInt (-3)).toInt32)) else (obd (f11_isRoundWell p1 p2 p3) (fun v11 => if v11 = 0 then (some (Int32.ofInt 0)) else (some (Int32.ofInt 1)))))))))
set_option maxRecDepth 100000 in
set_option maxHeartbeats 4000000 in
theorem c11_round (l : Launch) (κ : KP) (A : Nat → Prop) (s0 : HM) (a0 : Nat) (p1 : Int32) (p2 : Int32) (p3 : Int32) {res : Int32} (hF : f11_round s0 a0 p1 p2 p3 = some res) : Met l yX11_round (Cond.code yX11_round cX11_round 4 (some .int) :: WT) (rmL 2 0 0) (PP κ A [.ref a0, .int p1, .int p2, .int p3] (HS κ A s0)) (QQ (some (.int res)) (HS κ A s0) A) 0 0 A := by
  refine met_of (own := RX11) (by decide) rfl (Nat.le_of_ble_eq_true rfl) ?_
  intro Γ E hQ hL hR hA hent hini
  have hAA : ∀ q, A q → jA Γ q := fun q h => by rw [hA]; exact h
  have hroom : ∀ (d mL : Nat) {mc ms : Nat}, d < 2 → mL ≤ 21 → (rmL d mc ms).frames + 1 ≤ (jR Γ).frames ∧ 8 + (mL + 11) + (rmL d mc ms).locals ≤ (jR Γ).locals := fun d mL mc ms h1 h2 => by rw [hR]; exact rmL_le h1 h2
  show J Γ 4 (HS κ A s0) 0 0 0 [(0, .ref a0), (1, .int p1), (2, .int p2), (3, .int p3)] []
  unfold f11_round at hF
  refine j_blk (pc' := 1) (lv' := [(0, .ref a0), (1, .int p1), (2, .int p2), (3, .int p3)]) (st' := [.int p1]) E b_c11_round_0_1 rfl ?_
  replace hF := obd_at hF
  obtain ⟨v2, he1, hF⟩ := hF
  refine j_calls [.int p1] [] E w_RX11_211 (hroom 1 1 (by decide) (by decide)) hAA (c11_isRound _ κ A (HS κ A s0) _  he1) (fun _ h => h) (fun _ _ _ h _ _ => h) rfl rfl (Nat.le_of_ble_eq_true rfl) d_c11_round_1 ⟨Nat.zero_le _, Nat.zero_le _⟩ ?_
  refine j_if_eq (tgt := 14) E d_c11_round_4 (by decide) (fun h3 => ?_) (fun h3 => ?_)
  · replace hF := g_t hF h3
    refine j_blk (pc' := 15) (lv' := [(0, .ref a0), (1, .int p1), (2, .int p2), (3, .int p3)]) (st' := [.int (Int32.ofInt (-1))]) E b_c11_round_14_1 rfl ?_
    have e : res = Int32.ofInt (-1) := g_inj hF
    subst e
    exact j_iret E hQ d_c11_round_15 (fun _ h => h)
  · replace hF := g_f hF h3
    refine j_blk (pc' := 8) (lv' := [(0, .ref a0), (1, .int p1), (2, .int p2), (3, .int p3)]) (st' := [.int p3]) E b_c11_round_7_1 rfl ?_
    replace hF := obd_at hF
    obtain ⟨v5, he4, hF⟩ := hF
    refine j_calls [.int p3] [] E w_RX11_124 (hroom 1 1 (by decide) (by decide)) hAA (c11_isLaw _ κ A (HS κ A s0) _  he4) (fun _ h => h) (fun _ _ _ h _ _ => h) rfl rfl (Nat.le_of_ble_eq_true rfl) d_c11_round_8 ⟨Nat.zero_le _, Nat.zero_le _⟩ ?_
    refine j_if_ne (tgt := 16) E d_c11_round_11 (by decide) (fun h6 => ?_) (fun h6 => ?_)
    · replace hF := g_f hF h6
      refine j_blk (pc' := 18) (lv' := [(0, .ref a0), (1, .int p1), (2, .int p2), (3, .int p3)]) (st' := [.int p2, .int p1]) E b_c11_round_16_2 rfl ?_
      replace hF := obd_at hF
      obtain ⟨v8, he7, hF⟩ := hF
      refine j_calls [.int p1, .int p2] [] E w_RX11_214 (hroom 0 3 (by decide) (by decide)) hAA (c11_isSet _ κ A (HS κ A s0) _ _  he7) (fun _ h => h) (fun _ _ _ h _ _ => h) rfl rfl (Nat.le_of_ble_eq_true rfl) d_c11_round_18 ⟨Nat.zero_le _, Nat.zero_le _⟩ ?_
      refine j_if_ne (tgt := 29) E d_c11_round_21 (by decide) (fun h9 => ?_) (fun h9 => ?_)
      · replace hF := g_f hF h9
        refine j_blk (pc' := 32) (lv' := [(0, .ref a0), (1, .int p1), (2, .int p2), (3, .int p3)]) (st' := [.int p3, .int p2, .int p1]) E b_c11_round_29_3 rfl ?_
        replace hF := obd_at hF
        obtain ⟨v11, he10, hF⟩ := hF
        refine j_calls [.int p1, .int p2, .int p3] [] E w_RX11_217 (hroom 1 4 (by decide) (by decide)) hAA (c11_isRoundWell _ κ A (HS κ A s0) _ _ _  he10) (fun _ h => h) (fun _ _ _ h _ _ => h) rfl rfl (Nat.le_of_ble_eq_true rfl) d_c11_round_32 ⟨Nat.zero_le _, Nat.zero_le _⟩ ?_
        refine j_if_eq (tgt := 42) E d_c11_round_35 (by decide) (fun h12 => ?_) (fun h12 => ?_)
        · replace hF := g_t hF h12
          refine j_blk (pc' := 43) (lv' := [(0, .ref a0), (1, .int p1), (2, .int p2), (3, .int p3)]) (st' := [.int (Int32.ofInt 0)]) E b_c11_round_42_1 rfl ?_
          have e : res = Int32.ofInt 0 := g_inj hF
          subst e
          exact j_iret E hQ d_c11_round_43 (fun _ h => h)
        · replace hF := g_f hF h12
          refine j_blk (pc' := 39) (lv' := [(0, .ref a0), (1, .int p1), (2, .int p2), (3, .int p3)]) (st' := [.int (Int32.ofInt 1)]) E b_c11_round_38_1 rfl ?_
          refine j_goto (tgt := 43) E d_c11_round_39 (by decide) ?_
          have e : res = Int32.ofInt 1 := g_inj hF
          subst e
          exact j_iret E hQ d_c11_round_43 (fun _ h => h)
      · replace hF := g_t hF h9
        refine j_blk (pc' := 26) (lv' := [(0, .ref a0), (1, .int p1), (2, .int p2), (3, .int p3)]) (st' := [.int ((Int8.ofInt (-3)).toInt32)]) E b_c11_round_24_1 rfl ?_
        refine j_goto (tgt := 43) E d_c11_round_26 (by decide) ?_
        have e : res = (Int8.ofInt (-3)).toInt32 := g_inj hF
        subst e
        exact j_iret E hQ d_c11_round_43 (fun _ h => h)
    · replace hF := g_t hF h6
      refine j_blk (pc' := 15) (lv' := [(0, .ref a0), (1, .int p1), (2, .int p2), (3, .int p3)]) (st' := [.int (Int32.ofInt (-1))]) E b_c11_round_14_1 rfl ?_
      have e : res = Int32.ofInt (-1) := g_inj hF
      subst e
      exact j_iret E hQ d_c11_round_15 (fun _ h => h)
theorem b_c11_byRounds_0_1 : bdec cX11_byRounds 0 [.iload_n 1] = true := by decide +kernel
theorem d_c11_byRounds_1 : decode cX11_byRounds 1 = .ok (.invokestatic 211, 3) := by decide +kernel
theorem d_c11_byRounds_4 : decode cX11_byRounds 4 = .ok (.ifCond .eq 10, 3) := by decide +kernel
theorem b_c11_byRounds_14_1 : bdec cX11_byRounds 14 [.iconst (-1)] = true := by decide +kernel
theorem d_c11_byRounds_15 : decode cX11_byRounds 15 = .ok (.ireturn, 1) := by decide +kernel
theorem b_c11_byRounds_7_1 : bdec cX11_byRounds 7 [.iload_n 2] = true := by decide +kernel
theorem d_c11_byRounds_8 : decode cX11_byRounds 8 = .ok (.invokestatic 124, 3) := by decide +kernel
theorem d_c11_byRounds_11 : decode cX11_byRounds 11 = .ok (.ifCond .ne 5, 3) := by decide +kernel
theorem b_c11_byRounds_16_4 : bdec cX11_byRounds 16 [.bipush (-4), .istore_n 3, .iconst 0, .istore 4] = true := by decide +kernel
theorem b_c11_byRounds_22_6 : bdec cX11_byRounds 22 [.iload 4, .iconst 1, .iload_n 1, .iconst 1, .isub, .iconst 2] = true := by decide +kernel
theorem d_c11_byRounds_29 : decode cX11_byRounds 29 = .ok (.idiv, 1) := by decide +kernel
theorem b_c11_byRounds_30_1 : bdec cX11_byRounds 30 [.ishl] = true := by decide +kernel
theorem d_c11_byRounds_31 : decode cX11_byRounds 31 = .ok (.if_icmp .ge 83, 3) := by decide +kernel
theorem b_c11_byRounds_34_4 : bdec cX11_byRounds 34 [.iconst 0, .istore 5, .iconst 1, .istore 6] = true := by decide +kernel
theorem b_c11_byRounds_40_4 : bdec cX11_byRounds 40 [.iconst 2, .iload 6, .imul, .iload_n 1] = true := by decide +kernel
theorem d_c11_byRounds_45 : decode cX11_byRounds 45 = .ok (.if_icmp .ge 40, 3) := by decide +kernel
theorem b_c11_byRounds_48_9 : bdec cX11_byRounds 48 [.iload 5, .iload 4, .iload 6, .iconst 1, .isub, .ishr, .iconst 1, .iand, .iconst 1] = true := by decide +kernel
theorem d_c11_byRounds_60 : decode cX11_byRounds 60 = .ok (.if_icmp .ne 10, 3) := by decide +kernel
theorem b_c11_byRounds_70_8 : bdec cX11_byRounds 70 [.iconst 1, .iload_n 1, .iload 6, .isub, .ishl, .ior, .istore 5, .iinc 6 1] = true := by decide +kernel
theorem d_c11_byRounds_82 : decode cX11_byRounds 82 = .ok (.goto (-42), 3) := by decide +kernel
theorem b_c11_byRounds_63_3 : bdec cX11_byRounds 63 [.iconst 1, .iload 6, .ishl] = true := by decide +kernel
theorem d_c11_byRounds_67 : decode cX11_byRounds 67 = .ok (.goto 9, 3) := by decide +kernel
theorem b_c11_byRounds_76_3 : bdec cX11_byRounds 76 [.ior, .istore 5, .iinc 6 1] = true := by decide +kernel
theorem b_c11_byRounds_85_1 : bdec cX11_byRounds 85 [.iload_n 3] = true := by decide +kernel
theorem d_c11_byRounds_86 : decode cX11_byRounds 86 = .ok (.ifCond .lt 9, 3) := by decide +kernel
theorem b_c11_byRounds_95_3 : bdec cX11_byRounds 95 [.iload_n 1, .iload 5, .iload_n 2] = true := by decide +kernel
theorem d_c11_byRounds_99 : decode cX11_byRounds 99 = .ok (.invokestatic 217, 3) := by decide +kernel
theorem d_c11_byRounds_102 : decode cX11_byRounds 102 = .ok (.ifCond .eq 6, 3) := by decide +kernel
theorem b_c11_byRounds_108_1 : bdec cX11_byRounds 108 [.iinc 4 1] = true := by decide +kernel
theorem d_c11_byRounds_111 : decode cX11_byRounds 111 = .ok (.goto (-89), 3) := by decide +kernel
theorem b_c11_byRounds_105_3 : bdec cX11_byRounds 105 [.iload 5, .istore_n 3, .iinc 4 1] = true := by decide +kernel
theorem b_c11_byRounds_89_2 : bdec cX11_byRounds 89 [.iload 5, .iload_n 3] = true := by decide +kernel
theorem d_c11_byRounds_92 : decode cX11_byRounds 92 = .ok (.if_icmp .ge 16, 3) := by decide +kernel
theorem b_c11_byRounds_114_1 : bdec cX11_byRounds 114 [.iload_n 3] = true := by decide +kernel
theorem d_c11_byRounds_115 : decode cX11_byRounds 115 = .ok (.ireturn, 1) := by decide +kernel
def f11_byRounds_L40 (s0 : HM) (p1 : Int32) (p2 : Int32) (x22_3 : Int32) (x22_4 : Int32) (w : Int32 × Int32) : Option ((Int32 × Int32) ⊕ (Int32)) := match w with
  | (x40_5, x40_6) => if p1 ≤ ((Int32.ofInt 2) * x40_6) then (some (.inr x40_5)) else (if ((x22_4 >>> ((x40_6 - (Int32.ofInt 1)) &&& 31)) &&& (Int32.ofInt 1)) = (Int32.ofInt 1) then (some (.inl (x40_5 ||| ((Int32.ofInt 1) <<< (x40_6 &&& 31)), x40_6 + Int32.ofInt 1))) else (some (.inl (x40_5 ||| ((Int32.ofInt 1) <<< ((p1 - x40_6) &&& 31)), x40_6 + Int32.ofInt 1))))
def f11_byRounds_K95 (s0 : HM) (p1 : Int32) (p2 : Int32) (x22_3 : Int32) (k95_4 : Int32) (e40_5 : Int32) : Option ((Int32 × Int32) ⊕ (Int32)) := obd (f11_isRoundWell p1 e40_5 p2) (fun v13 => if v13 = 0 then (some (.inl (x22_3, k95_4 + Int32.ofInt 1))) else (some (.inl (e40_5, k95_4 + Int32.ofInt 1))))
def f11_byRounds_L22 (s0 : HM) (p1 : Int32) (p2 : Int32) (w : Int32 × Int32) : Option ((Int32 × Int32) ⊕ (Int32)) := match w with
  | (x22_3, x22_4) => onz (Int32.ofInt 2) (if ((Int32.ofInt 1) <<< (((p1 - (Int32.ofInt 1)) / (Int32.ofInt 2)) &&& 31)) ≤ x22_4 then (some (.inr x22_3)) else (obd (iter (f11_byRounds_L40 s0 p1 p2 x22_3 x22_4) FU (Int32.ofInt 0, Int32.ofInt 1)) (fun o9 => match o9 with | e40_5 => if x22_3 < 0 then (f11_byRounds_K95 s0 p1 p2 x22_3 x22_4 e40_5) else (if x22_3 ≤ e40_5 then (some (.inl (x22_3, x22_4 + Int32.ofInt 1))) else (f11_byRounds_K95 s0 p1 p2 x22_3 x22_4 e40_5)))))
def f11_byRounds (s0 : HM) (a0 : Nat) (p1 : Int32) (p2 : Int32) : Option (Int32) := obd (f11_isRound p1) (fun v2 => if v2 = 0 then (some (Int32.ofInt (-1))) else (obd (f11_isLaw p2) (fun v5 => if v5 = 0 then (some (Int32.ofInt (-1))) else (obd (iter (f11_byRounds_L22 s0 p1 p2) FU ((Int8.ofInt (-4)).toInt32, Int32.ofInt 0)) (fun o7 => match o7 with | e22_3 => some e22_3)))))
set_option maxRecDepth 100000 in
set_option maxHeartbeats 4000000 in
theorem c11_byRounds (l : Launch) (κ : KP) (A : Nat → Prop) (s0 : HM) (a0 : Nat) (p1 : Int32) (p2 : Int32) {res : Int32} (hF : f11_byRounds s0 a0 p1 p2 = some res) : Met l yX11_byRounds (Cond.code yX11_byRounds cX11_byRounds 7 (some .int) :: WT) (rmL 2 0 0) (PP κ A [.ref a0, .int p1, .int p2] (HS κ A s0)) (QQ (some (.int res)) (HS κ A s0) A) 0 0 A := by
  refine met_of (own := RX11) (by decide) rfl (Nat.le_of_ble_eq_true rfl) ?_
  intro Γ E hQ hL hR hA hent hini
  have hAA : ∀ q, A q → jA Γ q := fun q h => by rw [hA]; exact h
  have hroom : ∀ (d mL : Nat) {mc ms : Nat}, d < 2 → mL ≤ 21 → (rmL d mc ms).frames + 1 ≤ (jR Γ).frames ∧ 8 + (mL + 11) + (rmL d mc ms).locals ≤ (jR Γ).locals := fun d mL mc ms h1 h2 => by rw [hR]; exact rmL_le h1 h2
  show J Γ 7 (HS κ A s0) 0 0 0 [(0, .ref a0), (1, .int p1), (2, .int p2)] []
  unfold f11_byRounds at hF
  refine j_blk (pc' := 1) (lv' := [(0, .ref a0), (1, .int p1), (2, .int p2)]) (st' := [.int p1]) E b_c11_byRounds_0_1 rfl ?_
  replace hF := obd_at hF
  obtain ⟨v2, he1, hF⟩ := hF
  refine j_calls [.int p1] [] E w_RX11_211 (hroom 1 1 (by decide) (by decide)) hAA (c11_isRound _ κ A (HS κ A s0) _  he1) (fun _ h => h) (fun _ _ _ h _ _ => h) rfl rfl (Nat.le_of_ble_eq_true rfl) d_c11_byRounds_1 ⟨Nat.zero_le _, Nat.zero_le _⟩ ?_
  refine j_if_eq (tgt := 14) E d_c11_byRounds_4 (by decide) (fun h3 => ?_) (fun h3 => ?_)
  · replace hF := g_t hF h3
    refine j_blk (pc' := 15) (lv' := [(0, .ref a0), (1, .int p1), (2, .int p2)]) (st' := [.int (Int32.ofInt (-1))]) E b_c11_byRounds_14_1 rfl ?_
    have e : res = Int32.ofInt (-1) := g_inj hF
    subst e
    exact j_iret E hQ d_c11_byRounds_15 (fun _ h => h)
  · replace hF := g_f hF h3
    refine j_blk (pc' := 8) (lv' := [(0, .ref a0), (1, .int p1), (2, .int p2)]) (st' := [.int p2]) E b_c11_byRounds_7_1 rfl ?_
    replace hF := obd_at hF
    obtain ⟨v5, he4, hF⟩ := hF
    refine j_calls [.int p2] [] E w_RX11_124 (hroom 1 1 (by decide) (by decide)) hAA (c11_isLaw _ κ A (HS κ A s0) _  he4) (fun _ h => h) (fun _ _ _ h _ _ => h) rfl rfl (Nat.le_of_ble_eq_true rfl) d_c11_byRounds_8 ⟨Nat.zero_le _, Nat.zero_le _⟩ ?_
    refine j_if_ne (tgt := 16) E d_c11_byRounds_11 (by decide) (fun h6 => ?_) (fun h6 => ?_)
    · replace hF := g_f hF h6
      refine j_blk (pc' := 22) (lv' := [(4, .int (Int32.ofInt 0)), (3, .int ((Int8.ofInt (-4)).toInt32)), (0, .ref a0), (1, .int p1), (2, .int p2)]) (st' := []) E b_c11_byRounds_16_4 rfl ?_
      refine j_lv [3, 4, 1, 0] rfl ?_
      replace hF := obd_at hF
      obtain ⟨o7, ho7, hF⟩ := hF
      have lpo7 : ∀ (fu : Nat) (w : Int32 × Int32) (o : Int32), iter (f11_byRounds_L22 s0 p1 p2) fu w = some o → (fun (o : Int32) => J Γ 7 (HS κ A s0) 0 0 114 [(3, .int o)] []) o → (fun (w : Int32 × Int32) => J Γ 7 (HS κ A s0) 0 0 22 [(1, .int p1), (2, .int p2), (3, .int w.1), (4, .int w.2)] []) w := by
        refine j_iter (P := fun (w : Int32 × Int32) => J Γ 7 (HS κ A s0) 0 0 22 [(1, .int p1), (2, .int p2), (3, .int w.1), (4, .int w.2)] []) (G := fun (o : Int32) => J Γ 7 (HS κ A s0) 0 0 114 [(3, .int o)] []) ?_
        rintro ⟨x22_3, x22_4⟩ q hF hI hO
        show J Γ 7 (HS κ A s0) 0 0 22 [(1, .int p1), (2, .int p2), (3, .int x22_3), (4, .int x22_4)] []
        unfold f11_byRounds_L22 at hF
        refine j_blk (pc' := 29) (lv' := [(1, .int p1), (2, .int p2), (3, .int x22_3), (4, .int x22_4)]) (st' := [.int (Int32.ofInt 2), .int (p1 - (Int32.ofInt 1)), .int (Int32.ofInt 1), .int x22_4]) E b_c11_byRounds_22_6 rfl ?_
        replace hF := onz_at hF
        obtain ⟨h0, hF⟩ := hF
        refine j_idiv E d_c11_byRounds_29 h0 ?_
        refine j_blk (pc' := 31) (lv' := [(1, .int p1), (2, .int p2), (3, .int x22_3), (4, .int x22_4)]) (st' := [.int ((Int32.ofInt 1) <<< (((p1 - (Int32.ofInt 1)) / (Int32.ofInt 2)) &&& 31)), .int x22_4]) E b_c11_byRounds_30_1 rfl ?_
        refine j_icmp_ge (tgt := 114) E d_c11_byRounds_31 (by decide) (fun h8 => ?_) (fun h8 => ?_)
        · replace hF := g_t hF h8
          refine j_lv [2] rfl ?_
          exact hO _ (g_inj hF)
        · replace hF := g_f hF h8
          refine j_blk (pc' := 40) (lv' := [(6, .int (Int32.ofInt 1)), (5, .int (Int32.ofInt 0)), (1, .int p1), (2, .int p2), (3, .int x22_3), (4, .int x22_4)]) (st' := []) E b_c11_byRounds_34_4 rfl ?_
          refine j_lv [2, 3, 4, 5, 1, 0] rfl ?_
          replace hF := obd_at hF
          obtain ⟨o9, ho9, hF⟩ := hF
          have lpo9 : ∀ (fu : Nat) (w : Int32 × Int32) (o : Int32), iter (f11_byRounds_L40 s0 p1 p2 x22_3 x22_4) fu w = some o → (fun (o : Int32) => J Γ 7 (HS κ A s0) 0 0 85 [(1, .int p1), (2, .int p2), (3, .int x22_3), (4, .int x22_4), (5, .int o)] []) o → (fun (w : Int32 × Int32) => J Γ 7 (HS κ A s0) 0 0 40 [(1, .int p1), (2, .int p2), (3, .int x22_3), (4, .int x22_4), (5, .int w.1), (6, .int w.2)] []) w := by
            refine j_iter (P := fun (w : Int32 × Int32) => J Γ 7 (HS κ A s0) 0 0 40 [(1, .int p1), (2, .int p2), (3, .int x22_3), (4, .int x22_4), (5, .int w.1), (6, .int w.2)] []) (G := fun (o : Int32) => J Γ 7 (HS κ A s0) 0 0 85 [(1, .int p1), (2, .int p2), (3, .int x22_3), (4, .int x22_4), (5, .int o)] []) ?_
            rintro ⟨x40_5, x40_6⟩ q hF hI hO
            show J Γ 7 (HS κ A s0) 0 0 40 [(1, .int p1), (2, .int p2), (3, .int x22_3), (4, .int x22_4), (5, .int x40_5), (6, .int x40_6)] []
            unfold f11_byRounds_L40 at hF
            refine j_blk (pc' := 45) (lv' := [(1, .int p1), (2, .int p2), (3, .int x22_3), (4, .int x22_4), (5, .int x40_5), (6, .int x40_6)]) (st' := [.int p1, .int ((Int32.ofInt 2) * x40_6)]) E b_c11_byRounds_40_4 rfl ?_
            refine j_icmp_ge (tgt := 85) E d_c11_byRounds_45 (by decide) (fun h10 => ?_) (fun h10 => ?_)
            · replace hF := g_t hF h10
              refine j_lv [0, 1, 2, 3, 4] rfl ?_
              exact hO _ (g_inj hF)
            · replace hF := g_f hF h10
              refine j_blk (pc' := 60) (lv' := [(1, .int p1), (2, .int p2), (3, .int x22_3), (4, .int x22_4), (5, .int x40_5), (6, .int x40_6)]) (st' := [.int (Int32.ofInt 1), .int ((x22_4 >>> ((x40_6 - (Int32.ofInt 1)) &&& 31)) &&& (Int32.ofInt 1)), .int x40_5]) E b_c11_byRounds_48_9 rfl ?_
              refine j_icmp_ne (tgt := 70) E d_c11_byRounds_60 (by decide) (fun h11 => ?_) (fun h11 => ?_)
              · replace hF := g_f hF h11
                refine j_blk (pc' := 82) (lv' := [(6, .int (x40_6 + Int32.ofInt 1)), (5, .int (x40_5 ||| ((Int32.ofInt 1) <<< ((p1 - x40_6) &&& 31)))), (1, .int p1), (2, .int p2), (3, .int x22_3), (4, .int x22_4)]) (st' := []) E b_c11_byRounds_70_8 rfl ?_
                refine j_goto (tgt := 40) E d_c11_byRounds_82 (by decide) ?_
                refine j_lv [2, 3, 4, 5, 1, 0] rfl ?_
                exact hI _ (g_inj hF)
              · replace hF := g_t hF h11
                refine j_blk (pc' := 67) (lv' := [(1, .int p1), (2, .int p2), (3, .int x22_3), (4, .int x22_4), (5, .int x40_5), (6, .int x40_6)]) (st' := [.int ((Int32.ofInt 1) <<< (x40_6 &&& 31)), .int x40_5]) E b_c11_byRounds_63_3 rfl ?_
                refine j_goto (tgt := 76) E d_c11_byRounds_67 (by decide) ?_
                refine j_blk (pc' := 82) (lv' := [(6, .int (x40_6 + Int32.ofInt 1)), (5, .int (x40_5 ||| ((Int32.ofInt 1) <<< (x40_6 &&& 31)))), (1, .int p1), (2, .int p2), (3, .int x22_3), (4, .int x22_4)]) (st' := []) E b_c11_byRounds_76_3 rfl ?_
                refine j_goto (tgt := 40) E d_c11_byRounds_82 (by decide) ?_
                refine j_lv [2, 3, 4, 5, 1, 0] rfl ?_
                exact hI _ (g_inj hF)
          refine lpo9 FU (Int32.ofInt 0, Int32.ofInt 1) o9 ho9 ?_
          obtain ⟨e40_5, rfl⟩ : ∃ z, z = o9 := ⟨_, rfl⟩
          show J Γ 7 (HS κ A s0) 0 0 85 [(1, .int p1), (2, .int p2), (3, .int x22_3), (4, .int x22_4), (5, .int e40_5)] []
          refine j_blk (pc' := 86) (lv' := [(1, .int p1), (2, .int p2), (3, .int x22_3), (4, .int x22_4), (5, .int e40_5)]) (st' := [.int x22_3]) E b_c11_byRounds_85_1 rfl ?_
          have kp95 : ∀ (k95_4 : Int32), f11_byRounds_K95 s0 p1 p2 x22_3 k95_4 e40_5 = some q → J Γ 7 (HS κ A s0) 0 0 95 [(1, .int p1), (2, .int p2), (3, .int x22_3), (4, .int k95_4), (5, .int e40_5)] [] := by
            intro k95_4 hF
            unfold f11_byRounds_K95 at hF
            refine j_blk (pc' := 99) (lv' := [(1, .int p1), (2, .int p2), (3, .int x22_3), (4, .int k95_4), (5, .int e40_5)]) (st' := [.int p2, .int e40_5, .int p1]) E b_c11_byRounds_95_3 rfl ?_
            replace hF := obd_at hF
            obtain ⟨v13, he12, hF⟩ := hF
            refine j_calls [.int p1, .int e40_5, .int p2] [] E w_RX11_217 (hroom 1 4 (by decide) (by decide)) hAA (c11_isRoundWell _ κ A (HS κ A s0) _ _ _  he12) (fun _ h => h) (fun _ _ _ h _ _ => h) rfl rfl (Nat.le_of_ble_eq_true rfl) d_c11_byRounds_99 ⟨Nat.zero_le _, Nat.zero_le _⟩ ?_
            refine j_if_eq (tgt := 108) E d_c11_byRounds_102 (by decide) (fun h14 => ?_) (fun h14 => ?_)
            · replace hF := g_t hF h14
              refine j_blk (pc' := 111) (lv' := [(4, .int (k95_4 + Int32.ofInt 1)), (1, .int p1), (2, .int p2), (3, .int x22_3), (5, .int e40_5)]) (st' := []) E b_c11_byRounds_108_1 rfl ?_
              refine j_goto (tgt := 22) E d_c11_byRounds_111 (by decide) ?_
              refine j_lv [1, 2, 3, 0] rfl ?_
              exact hI _ (g_inj hF)
            · replace hF := g_f hF h14
              refine j_blk (pc' := 111) (lv' := [(4, .int (k95_4 + Int32.ofInt 1)), (3, .int e40_5), (1, .int p1), (2, .int p2), (5, .int e40_5)]) (st' := []) E b_c11_byRounds_105_3 rfl ?_
              refine j_goto (tgt := 22) E d_c11_byRounds_111 (by decide) ?_
              refine j_lv [2, 3, 1, 0] rfl ?_
              exact hI _ (g_inj hF)
          refine j_if_lt (tgt := 95) E d_c11_byRounds_86 (by decide) (fun h15 => ?_) (fun h15 => ?_)
          · replace hF := g_t hF h15
            exact kp95 x22_4 hF
          · replace hF := g_f hF h15
            refine j_blk (pc' := 92) (lv' := [(1, .int p1), (2, .int p2), (3, .int x22_3), (4, .int x22_4), (5, .int e40_5)]) (st' := [.int x22_3, .int e40_5]) E b_c11_byRounds_89_2 rfl ?_
            refine j_icmp_ge (tgt := 108) E d_c11_byRounds_92 (by decide) (fun h16 => ?_) (fun h16 => ?_)
            · replace hF := g_t hF h16
              refine j_blk (pc' := 111) (lv' := [(4, .int (x22_4 + Int32.ofInt 1)), (1, .int p1), (2, .int p2), (3, .int x22_3), (5, .int e40_5)]) (st' := []) E b_c11_byRounds_108_1 rfl ?_
              refine j_goto (tgt := 22) E d_c11_byRounds_111 (by decide) ?_
              refine j_lv [1, 2, 3, 0] rfl ?_
              exact hI _ (g_inj hF)
            · replace hF := g_f hF h16
              exact kp95 x22_4 hF
      refine lpo7 FU ((Int8.ofInt (-4)).toInt32, Int32.ofInt 0) o7 ho7 ?_
      obtain ⟨e22_3, rfl⟩ : ∃ z, z = o7 := ⟨_, rfl⟩
      show J Γ 7 (HS κ A s0) 0 0 114 [(3, .int e22_3)] []
      refine j_blk (pc' := 115) (lv' := [(3, .int e22_3)]) (st' := [.int e22_3]) E b_c11_byRounds_114_1 rfl ?_
      have e : res = e22_3 := g_inj hF
      subst e
      exact j_iret E hQ d_c11_byRounds_115 (fun _ h => h)
    · replace hF := g_t hF h6
      refine j_blk (pc' := 15) (lv' := [(0, .ref a0), (1, .int p1), (2, .int p2)]) (st' := [.int (Int32.ofInt (-1))]) E b_c11_byRounds_14_1 rfl ?_
      have e : res = Int32.ofInt (-1) := g_inj hF
      subst e
      exact j_iret E hQ d_c11_byRounds_15 (fun _ h => h)
theorem b_c11_count_0_3 : bdec cX11_count 0 [.iconst 0, .istore_n 2, .iload_n 1] = true := by decide +kernel
theorem d_c11_count_3 : decode cX11_count 3 = .ok (.tableswitch 93 0 3 #[29, 29, 36, 36], 29) := by decide +kernel
theorem b_c11_count_32_1 : bdec cX11_count 32 [.aload_n 0] = true := by decide +kernel
theorem d_c11_count_33 : decode cX11_count 33 = .ok (.getfield 9, 3) := by decide +kernel
theorem b_c11_count_36_1 : bdec cX11_count 36 [.iload_n 1] = true := by decide +kernel
theorem d_c11_count_37 : decode cX11_count 37 = .ok (.iaload, 1) := by decide +kernel
theorem d_c11_count_38 : decode cX11_count 38 = .ok (.ireturn, 1) := by decide +kernel
theorem b_c11_count_39_2 : bdec cX11_count 39 [.iconst 0, .istore_n 3] = true := by decide +kernel
theorem b_c11_count_41_2 : bdec cX11_count 41 [.iload_n 3, .aload_n 0] = true := by decide +kernel
theorem d_c11_count_43 : decode cX11_count 43 = .ok (.getfield 9, 3) := by decide +kernel
theorem b_c11_count_46_1 : bdec cX11_count 46 [.iconst 0] = true := by decide +kernel
theorem d_c11_count_47 : decode cX11_count 47 = .ok (.iaload, 1) := by decide +kernel
theorem d_c11_count_48 : decode cX11_count 48 = .ok (.if_icmp .ge 46, 3) := by decide +kernel
theorem b_c11_count_51_3 : bdec cX11_count 51 [.iload_n 2, .iload_n 1, .iconst 3] = true := by decide +kernel
theorem d_c11_count_54 : decode cX11_count 54 = .ok (.if_icmp .ne 19, 3) := by decide +kernel
theorem b_c11_count_73_2 : bdec cX11_count 73 [.aload_n 0, .iload_n 3] = true := by decide +kernel
theorem d_c11_count_75 : decode cX11_count 75 = .ok (.invokevirtual 88, 3) := by decide +kernel
theorem d_c11_count_78 : decode cX11_count 78 = .ok (.ifCond .eq 7, 3) := by decide +kernel
theorem b_c11_count_85_4 : bdec cX11_count 85 [.iconst 0, .iadd, .istore_n 2, .iinc 3 1] = true := by decide +kernel
theorem d_c11_count_91 : decode cX11_count 91 = .ok (.goto (-50), 3) := by decide +kernel
theorem b_c11_count_81_1 : bdec cX11_count 81 [.iconst 1] = true := by decide +kernel
theorem d_c11_count_82 : decode cX11_count 82 = .ok (.goto 4, 3) := by decide +kernel
theorem b_c11_count_86_3 : bdec cX11_count 86 [.iadd, .istore_n 2, .iinc 3 1] = true := by decide +kernel
theorem b_c11_count_57_2 : bdec cX11_count 57 [.aload_n 0, .iload_n 3] = true := by decide +kernel
theorem d_c11_count_59 : decode cX11_count 59 = .ok (.invokevirtual 73, 3) := by decide +kernel
theorem b_c11_count_62_2 : bdec cX11_count 62 [.aload_n 0, .iload_n 3] = true := by decide +kernel
theorem d_c11_count_64 : decode cX11_count 64 = .ok (.invokevirtual 70, 3) := by decide +kernel
theorem d_c11_count_67 : decode cX11_count 67 = .ok (.invokestatic 147, 3) := by decide +kernel
theorem d_c11_count_70 : decode cX11_count 70 = .ok (.goto 16, 3) := by decide +kernel
theorem b_c11_count_94_1 : bdec cX11_count 94 [.iload_n 2] = true := by decide +kernel
theorem d_c11_count_95 : decode cX11_count 95 = .ok (.ireturn, 1) := by decide +kernel
theorem b_c11_count_96_1 : bdec cX11_count 96 [.iconst (-1)] = true := by decide +kernel
theorem d_c11_count_97 : decode cX11_count 97 = .ok (.ireturn, 1) := by decide +kernel
def f11_count_L41 (s0 : HM) (a0 : Nat) (p1 : Int32) (w : Int32 × Int32) : Option ((Int32 × Int32) ⊕ (Int32)) := match w with
  | (x41_2, x41_3) => obd (hfld s0 [11] 0 a0) (fun v11 => orf v11 (fun b12 => obd (hald s0 b12 (Int32.ofInt 0)) (fun v13 => if v13 ≤ x41_3 then (some (.inr x41_2)) else (if p1 = (Int32.ofInt 3) then (ocl s0 a0 11 (obd (f11_kind s0 a0 x41_3) (fun v20 => ocl s0 a0 11 (obd (f11_figure s0 a0 x41_3) (fun v22 => obd (f11_priceBy v20 v22) (fun v24 => some (.inl (x41_2 + v24, x41_3 + Int32.ofInt 1)))))))) else (ocl s0 a0 11 (obd (f11_counts s0 a0 x41_3) (fun v17 => if v17 = 0 then (some (.inl (x41_2 + (Int32.ofInt 0), x41_3 + Int32.ofInt 1))) else (some (.inl (x41_2 + (Int32.ofInt 1), x41_3 + Int32.ofInt 1))))))))))
def f11_count (s0 : HM) (a0 : Nat) (p1 : Int32) : Option (Int32) := if p1 = 0 then (obd (hfld s0 [11] 0 a0) (fun v2 => orf v2 (fun b3 => obd (hald s0 b3 p1) (fun v4 => some v4)))) else (if p1 = 1 then (obd (hfld s0 [11] 0 a0) (fun v6 => orf v6 (fun b7 => obd (hald s0 b7 p1) (fun v8 => some v8)))) else (if p1 = 2 then (obd (iter (f11_count_L41 s0 a0 p1) FU (Int32.ofInt 0, Int32.ofInt 0)) (fun o10 => match o10 with | e41_2 => some e41_2)) else (if p1 = 3 then (obd (iter (f11_count_L41 s0 a0 p1) FU (Int32.ofInt 0, Int32.ofInt 0)) (fun o26 => match o26 with | e41_2 => some e41_2)) else (some (Int32.ofInt (-1))))))
set_option maxRecDepth 100000 in
set_option maxHeartbeats 4000000 in
theorem c11_count (l : Launch) (κ : KP) (A : Nat → Prop) (s0 : HM) (a0 : Nat) (p1 : Int32) {res : Int32} (hF : f11_count s0 a0 p1 = some res) : Met l yX11_count (Cond.code yX11_count cX11_count 4 (some .int) :: WT) (rmL 2 0 0) (PP κ A [.ref a0, .int p1] (HS κ A s0)) (QQ (some (.int res)) (HS κ A s0) A) 0 0 A := by
  refine met_of (own := RX11) (by decide) rfl (Nat.le_of_ble_eq_true rfl) ?_
  intro Γ E hQ hL hR hA hent hini
  have hAA : ∀ q, A q → jA Γ q := fun q h => by rw [hA]; exact h
  have hroom : ∀ (d mL : Nat) {mc ms : Nat}, d < 2 → mL ≤ 21 → (rmL d mc ms).frames + 1 ≤ (jR Γ).frames ∧ 8 + (mL + 11) + (rmL d mc ms).locals ≤ (jR Γ).locals := fun d mL mc ms h1 h2 => by rw [hR]; exact rmL_le h1 h2
  show J Γ 4 (HS κ A s0) 0 0 0 [(0, .ref a0), (1, .int p1)] []
  unfold f11_count at hF
  refine j_blk (pc' := 3) (lv' := [(2, .int (Int32.ofInt 0)), (0, .ref a0), (1, .int p1)]) (st' := [.int p1]) E b_c11_count_0_3 rfl ?_
  rcases Decidable.em (p1 = 0) with h1 | h1
  · replace hF := g_t hF h1
    refine j_tin (tgt := 32) (off := 29) E d_c11_count_3 h1 (by decide) (by decide) (by decide) (by decide) ?_
    refine j_blk (pc' := 33) (lv' := [(2, .int (Int32.ofInt 0)), (0, .ref a0), (1, .int p1)]) (st' := [.ref a0]) E b_c11_count_32_1 rfl ?_
    replace hF := obd_at hF
    obtain ⟨v2, ev2, hF⟩ := hF
    refine j_getf E fg_RX11_9 d_c11_count_33 ev2 ?_
    refine j_blk (pc' := 37) (lv' := [(2, .int (Int32.ofInt 0)), (0, .ref a0), (1, .int p1)]) (st' := [.int p1, v2]) E b_c11_count_36_1 rfl ?_
    replace hF := orf_at hF
    obtain ⟨b3, rfl, hF⟩ := hF
    replace hF := obd_at hF
    obtain ⟨v4, ev4, hF⟩ := hF
    refine j_iald E d_c11_count_37 ev4 ?_
    have e : res = v4 := g_inj hF
    subst e
    exact j_iret E hQ d_c11_count_38 (fun _ h => h)
  · replace hF := g_f hF h1
    rcases Decidable.em (p1 = 1) with h5 | h5
    · replace hF := g_t hF h5
      refine j_tin (tgt := 32) (off := 29) E d_c11_count_3 h5 (by decide) (by decide) (by decide) (by decide) ?_
      refine j_blk (pc' := 33) (lv' := [(2, .int (Int32.ofInt 0)), (0, .ref a0), (1, .int p1)]) (st' := [.ref a0]) E b_c11_count_32_1 rfl ?_
      replace hF := obd_at hF
      obtain ⟨v6, ev6, hF⟩ := hF
      refine j_getf E fg_RX11_9 d_c11_count_33 ev6 ?_
      refine j_blk (pc' := 37) (lv' := [(2, .int (Int32.ofInt 0)), (0, .ref a0), (1, .int p1)]) (st' := [.int p1, v6]) E b_c11_count_36_1 rfl ?_
      replace hF := orf_at hF
      obtain ⟨b7, rfl, hF⟩ := hF
      replace hF := obd_at hF
      obtain ⟨v8, ev8, hF⟩ := hF
      refine j_iald E d_c11_count_37 ev8 ?_
      have e : res = v8 := g_inj hF
      subst e
      exact j_iret E hQ d_c11_count_38 (fun _ h => h)
    · replace hF := g_f hF h5
      rcases Decidable.em (p1 = 2) with h9 | h9
      · replace hF := g_t hF h9
        refine j_tin (tgt := 39) (off := 36) E d_c11_count_3 h9 (by decide) (by decide) (by decide) (by decide) ?_
        refine j_blk (pc' := 41) (lv' := [(3, .int (Int32.ofInt 0)), (2, .int (Int32.ofInt 0)), (0, .ref a0), (1, .int p1)]) (st' := []) E b_c11_count_39_2 rfl ?_
        refine j_lv [2, 3, 1, 0] rfl ?_
        replace hF := obd_at hF
        obtain ⟨o10, ho10, hF⟩ := hF
        have lpo10 : ∀ (fu : Nat) (w : Int32 × Int32) (o : Int32), iter (f11_count_L41 s0 a0 p1) fu w = some o → (fun (o : Int32) => J Γ 4 (HS κ A s0) 0 0 94 [(2, .int o)] []) o → (fun (w : Int32 × Int32) => J Γ 4 (HS κ A s0) 0 0 41 [(0, .ref a0), (1, .int p1), (2, .int w.1), (3, .int w.2)] []) w := by
          refine j_iter (P := fun (w : Int32 × Int32) => J Γ 4 (HS κ A s0) 0 0 41 [(0, .ref a0), (1, .int p1), (2, .int w.1), (3, .int w.2)] []) (G := fun (o : Int32) => J Γ 4 (HS κ A s0) 0 0 94 [(2, .int o)] []) ?_
          rintro ⟨x41_2, x41_3⟩ q hF hI hO
          show J Γ 4 (HS κ A s0) 0 0 41 [(0, .ref a0), (1, .int p1), (2, .int x41_2), (3, .int x41_3)] []
          unfold f11_count_L41 at hF
          refine j_blk (pc' := 43) (lv' := [(0, .ref a0), (1, .int p1), (2, .int x41_2), (3, .int x41_3)]) (st' := [.ref a0, .int x41_3]) E b_c11_count_41_2 rfl ?_
          replace hF := obd_at hF
          obtain ⟨v11, ev11, hF⟩ := hF
          refine j_getf E fg_RX11_9 d_c11_count_43 ev11 ?_
          refine j_blk (pc' := 47) (lv' := [(0, .ref a0), (1, .int p1), (2, .int x41_2), (3, .int x41_3)]) (st' := [.int (Int32.ofInt 0), v11, .int x41_3]) E b_c11_count_46_1 rfl ?_
          replace hF := orf_at hF
          obtain ⟨b12, rfl, hF⟩ := hF
          replace hF := obd_at hF
          obtain ⟨v13, ev13, hF⟩ := hF
          refine j_iald E d_c11_count_47 ev13 ?_
          refine j_icmp_ge (tgt := 94) E d_c11_count_48 (by decide) (fun h14 => ?_) (fun h14 => ?_)
          · replace hF := g_t hF h14
            refine j_lv [2] rfl ?_
            exact hO _ (g_inj hF)
          · replace hF := g_f hF h14
            refine j_blk (pc' := 54) (lv' := [(0, .ref a0), (1, .int p1), (2, .int x41_2), (3, .int x41_3)]) (st' := [.int (Int32.ofInt 3), .int p1, .int x41_2]) E b_c11_count_51_3 rfl ?_
            refine j_icmp_ne (tgt := 73) E d_c11_count_54 (by decide) (fun h15 => ?_) (fun h15 => ?_)
            · replace hF := g_f hF h15
              refine j_blk (pc' := 75) (lv' := [(0, .ref a0), (1, .int p1), (2, .int x41_2), (3, .int x41_3)]) (st' := [.int x41_3, .ref a0, .int x41_2]) E b_c11_count_73_2 rfl ?_
              replace hF := ocl_at hF
              obtain ⟨hc, hF⟩ := hF
              replace hF := obd_at hF
              obtain ⟨v17, he16, hF⟩ := hF
              refine j_callv [.int x41_3] [.int x41_2] E w_RX11_88 (hroom 1 4 (by decide) (by decide)) hAA (c11_counts _ κ A _ _ _  he16) (fun _ h => h) (fun _ _ _ h _ _ => h) (fun _ h => j_recv E h hc rfl) rfl rfl (Nat.le_of_ble_eq_true rfl) d_c11_count_75 ⟨Nat.zero_le _, Nat.zero_le _⟩ ?_
              refine j_if_eq (tgt := 85) E d_c11_count_78 (by decide) (fun h18 => ?_) (fun h18 => ?_)
              · replace hF := g_t hF h18
                refine j_blk (pc' := 91) (lv' := [(3, .int (x41_3 + Int32.ofInt 1)), (2, .int (x41_2 + (Int32.ofInt 0))), (0, .ref a0), (1, .int p1)]) (st' := []) E b_c11_count_85_4 rfl ?_
                refine j_goto (tgt := 41) E d_c11_count_91 (by decide) ?_
                refine j_lv [2, 3, 1, 0] rfl ?_
                exact hI _ (g_inj hF)
              · replace hF := g_f hF h18
                refine j_blk (pc' := 82) (lv' := [(0, .ref a0), (1, .int p1), (2, .int x41_2), (3, .int x41_3)]) (st' := [.int (Int32.ofInt 1), .int x41_2]) E b_c11_count_81_1 rfl ?_
                refine j_goto (tgt := 86) E d_c11_count_82 (by decide) ?_
                refine j_blk (pc' := 91) (lv' := [(3, .int (x41_3 + Int32.ofInt 1)), (2, .int (x41_2 + (Int32.ofInt 1))), (0, .ref a0), (1, .int p1)]) (st' := []) E b_c11_count_86_3 rfl ?_
                refine j_goto (tgt := 41) E d_c11_count_91 (by decide) ?_
                refine j_lv [2, 3, 1, 0] rfl ?_
                exact hI _ (g_inj hF)
            · replace hF := g_t hF h15
              refine j_blk (pc' := 59) (lv' := [(0, .ref a0), (1, .int p1), (2, .int x41_2), (3, .int x41_3)]) (st' := [.int x41_3, .ref a0, .int x41_2]) E b_c11_count_57_2 rfl ?_
              replace hF := ocl_at hF
              obtain ⟨hc, hF⟩ := hF
              replace hF := obd_at hF
              obtain ⟨v20, he19, hF⟩ := hF
              refine j_callv [.int x41_3] [.int x41_2] E w_RX11_73 (hroom 0 2 (by decide) (by decide)) hAA (c11_kind _ κ A _ _ _  he19) (fun _ h => h) (fun _ _ _ h _ _ => h) (fun _ h => j_recv E h hc rfl) rfl rfl (Nat.le_of_ble_eq_true rfl) d_c11_count_59 ⟨Nat.zero_le _, Nat.zero_le _⟩ ?_
              refine j_blk (pc' := 64) (lv' := [(0, .ref a0), (1, .int p1), (2, .int x41_2), (3, .int x41_3)]) (st' := [.int x41_3, .ref a0, .int v20, .int x41_2]) E b_c11_count_62_2 rfl ?_
              replace hF := ocl_at hF
              obtain ⟨hc, hF⟩ := hF
              replace hF := obd_at hF
              obtain ⟨v22, he21, hF⟩ := hF
              refine j_callv [.int x41_3] [.int v20, .int x41_2] E w_RX11_70 (hroom 0 2 (by decide) (by decide)) hAA (c11_figure _ κ A _ _ _  he21) (fun _ h => h) (fun _ _ _ h _ _ => h) (fun _ h => j_recv E h hc rfl) rfl rfl (Nat.le_of_ble_eq_true rfl) d_c11_count_64 ⟨Nat.zero_le _, Nat.zero_le _⟩ ?_
              replace hF := obd_at hF
              obtain ⟨v24, he23, hF⟩ := hF
              refine j_calls [.int v20, .int v22] [.int x41_2] E w_RX11_147 (hroom 0 2 (by decide) (by decide)) hAA (c11_priceBy _ κ A (HS κ A s0) _ _  he23) (fun _ h => h) (fun _ _ _ h _ _ => h) rfl rfl (Nat.le_of_ble_eq_true rfl) d_c11_count_67 ⟨Nat.zero_le _, Nat.zero_le _⟩ ?_
              refine j_goto (tgt := 86) E d_c11_count_70 (by decide) ?_
              refine j_blk (pc' := 91) (lv' := [(3, .int (x41_3 + Int32.ofInt 1)), (2, .int (x41_2 + v24)), (0, .ref a0), (1, .int p1)]) (st' := []) E b_c11_count_86_3 rfl ?_
              refine j_goto (tgt := 41) E d_c11_count_91 (by decide) ?_
              refine j_lv [2, 3, 1, 0] rfl ?_
              exact hI _ (g_inj hF)
        refine lpo10 FU (Int32.ofInt 0, Int32.ofInt 0) o10 ho10 ?_
        obtain ⟨e41_2, rfl⟩ : ∃ z, z = o10 := ⟨_, rfl⟩
        show J Γ 4 (HS κ A s0) 0 0 94 [(2, .int e41_2)] []
        refine j_blk (pc' := 95) (lv' := [(2, .int e41_2)]) (st' := [.int e41_2]) E b_c11_count_94_1 rfl ?_
        have e : res = e41_2 := g_inj hF
        subst e
        exact j_iret E hQ d_c11_count_95 (fun _ h => h)
      · replace hF := g_f hF h9
        rcases Decidable.em (p1 = 3) with h25 | h25
        · replace hF := g_t hF h25
          refine j_tin (tgt := 39) (off := 36) E d_c11_count_3 h25 (by decide) (by decide) (by decide) (by decide) ?_
          refine j_blk (pc' := 41) (lv' := [(3, .int (Int32.ofInt 0)), (2, .int (Int32.ofInt 0)), (0, .ref a0), (1, .int p1)]) (st' := []) E b_c11_count_39_2 rfl ?_
          refine j_lv [2, 3, 1, 0] rfl ?_
          replace hF := obd_at hF
          obtain ⟨o26, ho26, hF⟩ := hF
          have lpo26 : ∀ (fu : Nat) (w : Int32 × Int32) (o : Int32), iter (f11_count_L41 s0 a0 p1) fu w = some o → (fun (o : Int32) => J Γ 4 (HS κ A s0) 0 0 94 [(2, .int o)] []) o → (fun (w : Int32 × Int32) => J Γ 4 (HS κ A s0) 0 0 41 [(0, .ref a0), (1, .int p1), (2, .int w.1), (3, .int w.2)] []) w := by
            refine j_iter (P := fun (w : Int32 × Int32) => J Γ 4 (HS κ A s0) 0 0 41 [(0, .ref a0), (1, .int p1), (2, .int w.1), (3, .int w.2)] []) (G := fun (o : Int32) => J Γ 4 (HS κ A s0) 0 0 94 [(2, .int o)] []) ?_
            rintro ⟨x41_2, x41_3⟩ q hF hI hO
            show J Γ 4 (HS κ A s0) 0 0 41 [(0, .ref a0), (1, .int p1), (2, .int x41_2), (3, .int x41_3)] []
            unfold f11_count_L41 at hF
            refine j_blk (pc' := 43) (lv' := [(0, .ref a0), (1, .int p1), (2, .int x41_2), (3, .int x41_3)]) (st' := [.ref a0, .int x41_3]) E b_c11_count_41_2 rfl ?_
            replace hF := obd_at hF
            obtain ⟨v27, ev27, hF⟩ := hF
            refine j_getf E fg_RX11_9 d_c11_count_43 ev27 ?_
            refine j_blk (pc' := 47) (lv' := [(0, .ref a0), (1, .int p1), (2, .int x41_2), (3, .int x41_3)]) (st' := [.int (Int32.ofInt 0), v27, .int x41_3]) E b_c11_count_46_1 rfl ?_
            replace hF := orf_at hF
            obtain ⟨b28, rfl, hF⟩ := hF
            replace hF := obd_at hF
            obtain ⟨v29, ev29, hF⟩ := hF
            refine j_iald E d_c11_count_47 ev29 ?_
            refine j_icmp_ge (tgt := 94) E d_c11_count_48 (by decide) (fun h30 => ?_) (fun h30 => ?_)
            · replace hF := g_t hF h30
              refine j_lv [2] rfl ?_
              exact hO _ (g_inj hF)
            · replace hF := g_f hF h30
              refine j_blk (pc' := 54) (lv' := [(0, .ref a0), (1, .int p1), (2, .int x41_2), (3, .int x41_3)]) (st' := [.int (Int32.ofInt 3), .int p1, .int x41_2]) E b_c11_count_51_3 rfl ?_
              refine j_icmp_ne (tgt := 73) E d_c11_count_54 (by decide) (fun h31 => ?_) (fun h31 => ?_)
              · replace hF := g_f hF h31
                refine j_blk (pc' := 75) (lv' := [(0, .ref a0), (1, .int p1), (2, .int x41_2), (3, .int x41_3)]) (st' := [.int x41_3, .ref a0, .int x41_2]) E b_c11_count_73_2 rfl ?_
                replace hF := ocl_at hF
                obtain ⟨hc, hF⟩ := hF
                replace hF := obd_at hF
                obtain ⟨v33, he32, hF⟩ := hF
                refine j_callv [.int x41_3] [.int x41_2] E w_RX11_88 (hroom 1 4 (by decide) (by decide)) hAA (c11_counts _ κ A _ _ _  he32) (fun _ h => h) (fun _ _ _ h _ _ => h) (fun _ h => j_recv E h hc rfl) rfl rfl (Nat.le_of_ble_eq_true rfl) d_c11_count_75 ⟨Nat.zero_le _, Nat.zero_le _⟩ ?_
                refine j_if_eq (tgt := 85) E d_c11_count_78 (by decide) (fun h34 => ?_) (fun h34 => ?_)
                · replace hF := g_t hF h34
                  refine j_blk (pc' := 91) (lv' := [(3, .int (x41_3 + Int32.ofInt 1)), (2, .int (x41_2 + (Int32.ofInt 0))), (0, .ref a0), (1, .int p1)]) (st' := []) E b_c11_count_85_4 rfl ?_
                  refine j_goto (tgt := 41) E d_c11_count_91 (by decide) ?_
                  refine j_lv [2, 3, 1, 0] rfl ?_
                  exact hI _ (g_inj hF)
                · replace hF := g_f hF h34
                  refine j_blk (pc' := 82) (lv' := [(0, .ref a0), (1, .int p1), (2, .int x41_2), (3, .int x41_3)]) (st' := [.int (Int32.ofInt 1), .int x41_2]) E b_c11_count_81_1 rfl ?_
                  refine j_goto (tgt := 86) E d_c11_count_82 (by decide) ?_
                  refine j_blk (pc' := 91) (lv' := [(3, .int (x41_3 + Int32.ofInt 1)), (2, .int (x41_2 + (Int32.ofInt 1))), (0, .ref a0), (1, .int p1)]) (st' := []) E b_c11_count_86_3 rfl ?_
                  refine j_goto (tgt := 41) E d_c11_count_91 (by decide) ?_
                  refine j_lv [2, 3, 1, 0] rfl ?_
                  exact hI _ (g_inj hF)
              · replace hF := g_t hF h31
                refine j_blk (pc' := 59) (lv' := [(0, .ref a0), (1, .int p1), (2, .int x41_2), (3, .int x41_3)]) (st' := [.int x41_3, .ref a0, .int x41_2]) E b_c11_count_57_2 rfl ?_
                replace hF := ocl_at hF
                obtain ⟨hc, hF⟩ := hF
                replace hF := obd_at hF
                obtain ⟨v36, he35, hF⟩ := hF
                refine j_callv [.int x41_3] [.int x41_2] E w_RX11_73 (hroom 0 2 (by decide) (by decide)) hAA (c11_kind _ κ A _ _ _  he35) (fun _ h => h) (fun _ _ _ h _ _ => h) (fun _ h => j_recv E h hc rfl) rfl rfl (Nat.le_of_ble_eq_true rfl) d_c11_count_59 ⟨Nat.zero_le _, Nat.zero_le _⟩ ?_
                refine j_blk (pc' := 64) (lv' := [(0, .ref a0), (1, .int p1), (2, .int x41_2), (3, .int x41_3)]) (st' := [.int x41_3, .ref a0, .int v36, .int x41_2]) E b_c11_count_62_2 rfl ?_
                replace hF := ocl_at hF
                obtain ⟨hc, hF⟩ := hF
                replace hF := obd_at hF
                obtain ⟨v38, he37, hF⟩ := hF
                refine j_callv [.int x41_3] [.int v36, .int x41_2] E w_RX11_70 (hroom 0 2 (by decide) (by decide)) hAA (c11_figure _ κ A _ _ _  he37) (fun _ h => h) (fun _ _ _ h _ _ => h) (fun _ h => j_recv E h hc rfl) rfl rfl (Nat.le_of_ble_eq_true rfl) d_c11_count_64 ⟨Nat.zero_le _, Nat.zero_le _⟩ ?_
                replace hF := obd_at hF
                obtain ⟨v40, he39, hF⟩ := hF
                refine j_calls [.int v36, .int v38] [.int x41_2] E w_RX11_147 (hroom 0 2 (by decide) (by decide)) hAA (c11_priceBy _ κ A (HS κ A s0) _ _  he39) (fun _ h => h) (fun _ _ _ h _ _ => h) rfl rfl (Nat.le_of_ble_eq_true rfl) d_c11_count_67 ⟨Nat.zero_le _, Nat.zero_le _⟩ ?_
                refine j_goto (tgt := 86) E d_c11_count_70 (by decide) ?_
                refine j_blk (pc' := 91) (lv' := [(3, .int (x41_3 + Int32.ofInt 1)), (2, .int (x41_2 + v40)), (0, .ref a0), (1, .int p1)]) (st' := []) E b_c11_count_86_3 rfl ?_
                refine j_goto (tgt := 41) E d_c11_count_91 (by decide) ?_
                refine j_lv [2, 3, 1, 0] rfl ?_
                exact hI _ (g_inj hF)
          refine lpo26 FU (Int32.ofInt 0, Int32.ofInt 0) o26 ho26 ?_
          obtain ⟨e41_2, rfl⟩ : ∃ z, z = o26 := ⟨_, rfl⟩
          show J Γ 4 (HS κ A s0) 0 0 94 [(2, .int e41_2)] []
          refine j_blk (pc' := 95) (lv' := [(2, .int e41_2)]) (st' := [.int e41_2]) E b_c11_count_94_1 rfl ?_
          have e : res = e41_2 := g_inj hF
          subst e
          exact j_iret E hQ d_c11_count_95 (fun _ h => h)
        · replace hF := g_f hF h25
          have h1 := lv_neT h1 (a := 0) (by decide)
          have h5 := lv_neT h5 (a := 1) (by decide)
          have h9 := lv_neT h9 (a := 2) (by decide)
          have h25 := lv_neT h25 (a := 3) (by decide)
          refine j_tout (tgt := 96) E d_c11_count_3 (by omega) (by decide) ?_
          refine j_blk (pc' := 97) (lv' := [(2, .int (Int32.ofInt 0)), (0, .ref a0), (1, .int p1)]) (st' := [.int (Int32.ofInt (-1))]) E b_c11_count_96_1 rfl ?_
          have e : res = Int32.ofInt (-1) := g_inj hF
          subst e
          exact j_iret E hQ d_c11_count_97 (fun _ h => h)
theorem b_c11_keep_0_1 : bdec cX11_keep 0 [.iload_n 1] = true := by decide +kernel
theorem d_c11_keep_1 : decode cX11_keep 1 = .ok (.invokestatic 131, 3) := by decide +kernel
theorem d_c11_keep_4 : decode cX11_keep 4 = .ok (.ifCond .eq 43, 3) := by decide +kernel
theorem b_c11_keep_47_1 : bdec cX11_keep 47 [.iconst (-1)] = true := by decide +kernel
theorem d_c11_keep_48 : decode cX11_keep 48 = .ok (.ireturn, 1) := by decide +kernel
theorem b_c11_keep_7_4 : bdec cX11_keep 7 [.iload_n 2, .i2l, .lconst 0, .lconst 1] = true := by decide +kernel
theorem d_c11_keep_11 : decode cX11_keep 11 = .ok (.invokestatic 49, 3) := by decide +kernel
theorem d_c11_keep_14 : decode cX11_keep 14 = .ok (.ifCond .eq 33, 3) := by decide +kernel
theorem b_c11_keep_17_2 : bdec cX11_keep 17 [.iload_n 2, .iconst 1] = true := by decide +kernel
theorem d_c11_keep_19 : decode cX11_keep 19 = .ok (.if_icmp .ne 30, 3) := by decide +kernel
theorem b_c11_keep_49_1 : bdec cX11_keep 49 [.aload_n 0] = true := by decide +kernel
theorem d_c11_keep_50 : decode cX11_keep 50 = .ok (.getfield 22, 3) := by decide +kernel
theorem b_c11_keep_53_2 : bdec cX11_keep 53 [.iload_n 1, .iload_n 2] = true := by decide +kernel
theorem d_c11_keep_55 : decode cX11_keep 55 = .ok (.iastore, 1) := by decide +kernel
theorem b_c11_keep_56_1 : bdec cX11_keep 56 [.aload_n 0] = true := by decide +kernel
theorem d_c11_keep_57 : decode cX11_keep 57 = .ok (.getfield 34, 3) := by decide +kernel
theorem b_c11_keep_60_2 : bdec cX11_keep 60 [.iload_n 1, .iload_n 3] = true := by decide +kernel
theorem d_c11_keep_62 : decode cX11_keep 62 = .ok (.iastore, 1) := by decide +kernel
theorem b_c11_keep_63_1 : bdec cX11_keep 63 [.aload_n 0] = true := by decide +kernel
theorem d_c11_keep_64 : decode cX11_keep 64 = .ok (.getfield 37, 3) := by decide +kernel
theorem b_c11_keep_67_2 : bdec cX11_keep 67 [.iload_n 1, .iload 4] = true := by decide +kernel
theorem d_c11_keep_70 : decode cX11_keep 70 = .ok (.iastore, 1) := by decide +kernel
theorem b_c11_keep_71_1 : bdec cX11_keep 71 [.iconst 0] = true := by decide +kernel
theorem d_c11_keep_72 : decode cX11_keep 72 = .ok (.ireturn, 1) := by decide +kernel
theorem b_c11_keep_22_3 : bdec cX11_keep 22 [.iload_n 3, .i2l, .lconst 0] = true := by decide +kernel
theorem d_c11_keep_25 : decode cX11_keep 25 = .ok (.ldc2_w 47, 3) := by decide +kernel
theorem d_c11_keep_28 : decode cX11_keep 28 = .ok (.invokestatic 49, 3) := by decide +kernel
theorem d_c11_keep_31 : decode cX11_keep 31 = .ok (.ifCond .eq 16, 3) := by decide +kernel
theorem b_c11_keep_34_3 : bdec cX11_keep 34 [.iload 4, .i2l, .lconst 0] = true := by decide +kernel
theorem d_c11_keep_38 : decode cX11_keep 38 = .ok (.ldc2_w 175, 3) := by decide +kernel
theorem d_c11_keep_41 : decode cX11_keep 41 = .ok (.invokestatic 49, 3) := by decide +kernel
theorem d_c11_keep_44 : decode cX11_keep 44 = .ok (.ifCond .ne 5, 3) := by decide +kernel
def f11_keep_K49 (s0 : HM) (a0 : Nat) (p1 : Int32) (p2 : Int32) (p3 : Int32) (p4 : Int32) : Option (Int32 × HM) := obd (hfld s0 [11] 4 a0) (fun v7 => orf v7 (fun b8 => obd (hast s0 b8 p1 p2) (fun s9 => obd (hfld s9 [11] 8 a0) (fun v10 => orf v10 (fun b11 => obd (hast s9 b11 p1 p3) (fun s12 => obd (hfld s12 [11] 9 a0) (fun v13 => orf v13 (fun b14 => obd (hast s12 b14 p1 p4) (fun s15 => some (Int32.ofInt 0, s15))))))))))
def f11_keep (s0 : HM) (a0 : Nat) (p1 : Int32) (p2 : Int32) (p3 : Int32) (p4 : Int32) : Option (Int32 × HM) := obd (f11_isShelf p1) (fun v2 => if v2 = 0 then (some (Int32.ofInt (-1), s0)) else (obd (f11_isIn p2.toInt64 (Int64.ofNat 0) (Int64.ofNat 1)) (fun v5 => if v5 = 0 then (some (Int32.ofInt (-1), s0)) else (if p2 = (Int32.ofInt 1) then (obd (f11_isIn p3.toInt64 (Int64.ofNat 0) 7) (fun v18 => if v18 = 0 then (some (Int32.ofInt (-1), s0)) else (obd (f11_isIn p4.toInt64 (Int64.ofNat 0) 9) (fun v21 => if v21 = 0 then (some (Int32.ofInt (-1), s0)) else (f11_keep_K49 s0 a0 p1 p2 p3 p4))))) else (f11_keep_K49 s0 a0 p1 p2 p3 p4)))))
set_option maxRecDepth 100000 in
set_option maxHeartbeats 4000000 in
theorem c11_keep (l : Launch) (κ : KP) (A : Nat → Prop) (s0 : HM) (a0 : Nat) (p1 : Int32) (p2 : Int32) (p3 : Int32) (p4 : Int32) {res : Int32 × HM} (hF : f11_keep s0 a0 p1 p2 p3 p4 = some res) : Met l yX11_keep (Cond.code yX11_keep cX11_keep 5 (some .int) :: WT) (rmL 2 0 0) (PP κ A [.ref a0, .int p1, .int p2, .int p3, .int p4] (HS κ A s0)) (QQ (some (.int res.1)) (HS κ A res.2) A) 0 0 A := by
  refine met_of (own := RX11) (by decide) rfl (Nat.le_of_ble_eq_true rfl) ?_
  intro Γ E hQ hL hR hA hent hini
  have hAA : ∀ q, A q → jA Γ q := fun q h => by rw [hA]; exact h
  have hroom : ∀ (d mL : Nat) {mc ms : Nat}, d < 2 → mL ≤ 21 → (rmL d mc ms).frames + 1 ≤ (jR Γ).frames ∧ 8 + (mL + 11) + (rmL d mc ms).locals ≤ (jR Γ).locals := fun d mL mc ms h1 h2 => by rw [hR]; exact rmL_le h1 h2
  show J Γ 5 (HS κ A s0) 0 0 0 [(0, .ref a0), (1, .int p1), (2, .int p2), (3, .int p3), (4, .int p4)] []
  unfold f11_keep at hF
  refine j_blk (pc' := 1) (lv' := [(0, .ref a0), (1, .int p1), (2, .int p2), (3, .int p3), (4, .int p4)]) (st' := [.int p1]) E b_c11_keep_0_1 rfl ?_
  replace hF := obd_at hF
  obtain ⟨v2, he1, hF⟩ := hF
  refine j_calls [.int p1] [] E w_RX11_131 (hroom 1 1 (by decide) (by decide)) hAA (c11_isShelf _ κ A (HS κ A s0) _  he1) (fun _ h => h) (fun _ _ _ h _ _ => h) rfl rfl (Nat.le_of_ble_eq_true rfl) d_c11_keep_1 ⟨Nat.zero_le _, Nat.zero_le _⟩ ?_
  refine j_if_eq (tgt := 47) E d_c11_keep_4 (by decide) (fun h3 => ?_) (fun h3 => ?_)
  · replace hF := g_t hF h3
    refine j_blk (pc' := 48) (lv' := [(0, .ref a0), (1, .int p1), (2, .int p2), (3, .int p3), (4, .int p4)]) (st' := [.int (Int32.ofInt (-1))]) E b_c11_keep_47_1 rfl ?_
    have e : res = (Int32.ofInt (-1), s0) := g_inj hF
    subst e
    exact j_iret E hQ d_c11_keep_48 (fun _ h => h)
  · replace hF := g_f hF h3
    refine j_blk (pc' := 11) (lv' := [(0, .ref a0), (1, .int p1), (2, .int p2), (3, .int p3), (4, .int p4)]) (st' := [.long (Int64.ofNat 1), .long (Int64.ofNat 0), .long p2.toInt64]) E b_c11_keep_7_4 rfl ?_
    replace hF := obd_at hF
    obtain ⟨v5, he4, hF⟩ := hF
    refine j_calls [.long p2.toInt64, .long (Int64.ofNat 0), .long (Int64.ofNat 1)] [] E w_RX11_49 (hroom 0 6 (by decide) (by decide)) hAA (c11_isIn _ κ A (HS κ A s0) _ _ _  he4) (fun _ h => h) (fun _ _ _ h _ _ => h) rfl rfl (Nat.le_of_ble_eq_true rfl) d_c11_keep_11 ⟨Nat.zero_le _, Nat.zero_le _⟩ ?_
    refine j_if_eq (tgt := 47) E d_c11_keep_14 (by decide) (fun h6 => ?_) (fun h6 => ?_)
    · replace hF := g_t hF h6
      refine j_blk (pc' := 48) (lv' := [(0, .ref a0), (1, .int p1), (2, .int p2), (3, .int p3), (4, .int p4)]) (st' := [.int (Int32.ofInt (-1))]) E b_c11_keep_47_1 rfl ?_
      have e : res = (Int32.ofInt (-1), s0) := g_inj hF
      subst e
      exact j_iret E hQ d_c11_keep_48 (fun _ h => h)
    · replace hF := g_f hF h6
      refine j_blk (pc' := 19) (lv' := [(0, .ref a0), (1, .int p1), (2, .int p2), (3, .int p3), (4, .int p4)]) (st' := [.int (Int32.ofInt 1), .int p2]) E b_c11_keep_17_2 rfl ?_
      have kp49 : f11_keep_K49 s0 a0 p1 p2 p3 p4 = some res → J Γ 5 (HS κ A s0) 0 0 49 [(0, .ref a0), (1, .int p1), (2, .int p2), (3, .int p3), (4, .int p4)] [] := by
        intro hF
        unfold f11_keep_K49 at hF
        refine j_blk (pc' := 50) (lv' := [(0, .ref a0), (1, .int p1), (2, .int p2), (3, .int p3), (4, .int p4)]) (st' := [.ref a0]) E b_c11_keep_49_1 rfl ?_
        replace hF := obd_at hF
        obtain ⟨v7, ev7, hF⟩ := hF
        refine j_getf E fg_RX11_22 d_c11_keep_50 ev7 ?_
        refine j_blk (pc' := 55) (lv' := [(0, .ref a0), (1, .int p1), (2, .int p2), (3, .int p3), (4, .int p4)]) (st' := [.int p2, .int p1, v7]) E b_c11_keep_53_2 rfl ?_
        replace hF := orf_at hF
        obtain ⟨b8, rfl, hF⟩ := hF
        replace hF := obd_at hF
        obtain ⟨s9, es9, hF⟩ := hF
        refine j_iast E d_c11_keep_55 es9 hAA ?_
        refine j_blk (pc' := 57) (lv' := [(0, .ref a0), (1, .int p1), (2, .int p2), (3, .int p3), (4, .int p4)]) (st' := [.ref a0]) E b_c11_keep_56_1 rfl ?_
        replace hF := obd_at hF
        obtain ⟨v10, ev10, hF⟩ := hF
        refine j_getf E fg_RX11_34 d_c11_keep_57 ev10 ?_
        refine j_blk (pc' := 62) (lv' := [(0, .ref a0), (1, .int p1), (2, .int p2), (3, .int p3), (4, .int p4)]) (st' := [.int p3, .int p1, v10]) E b_c11_keep_60_2 rfl ?_
        replace hF := orf_at hF
        obtain ⟨b11, rfl, hF⟩ := hF
        replace hF := obd_at hF
        obtain ⟨s12, es12, hF⟩ := hF
        refine j_iast E d_c11_keep_62 es12 hAA ?_
        refine j_blk (pc' := 64) (lv' := [(0, .ref a0), (1, .int p1), (2, .int p2), (3, .int p3), (4, .int p4)]) (st' := [.ref a0]) E b_c11_keep_63_1 rfl ?_
        replace hF := obd_at hF
        obtain ⟨v13, ev13, hF⟩ := hF
        refine j_getf E fg_RX11_37 d_c11_keep_64 ev13 ?_
        refine j_blk (pc' := 70) (lv' := [(0, .ref a0), (1, .int p1), (2, .int p2), (3, .int p3), (4, .int p4)]) (st' := [.int p4, .int p1, v13]) E b_c11_keep_67_2 rfl ?_
        replace hF := orf_at hF
        obtain ⟨b14, rfl, hF⟩ := hF
        replace hF := obd_at hF
        obtain ⟨s15, es15, hF⟩ := hF
        refine j_iast E d_c11_keep_70 es15 hAA ?_
        refine j_blk (pc' := 72) (lv' := [(0, .ref a0), (1, .int p1), (2, .int p2), (3, .int p3), (4, .int p4)]) (st' := [.int (Int32.ofInt 0)]) E b_c11_keep_71_1 rfl ?_
        have e : res = (Int32.ofInt 0, s15) := g_inj hF
        subst e
        exact j_iret E hQ d_c11_keep_72 (fun _ h => h)
      refine j_icmp_ne (tgt := 49) E d_c11_keep_19 (by decide) (fun h16 => ?_) (fun h16 => ?_)
      · replace hF := g_f hF h16
        exact kp49 hF
      · replace hF := g_t hF h16
        refine j_blk (pc' := 25) (lv' := [(0, .ref a0), (1, .int p1), (2, .int p2), (3, .int p3), (4, .int p4)]) (st' := [.long (Int64.ofNat 0), .long p3.toInt64]) E b_c11_keep_22_3 rfl ?_
        refine j_ldc2 (u := 7) E d_c11_keep_25 m_876 ?_
        replace hF := obd_at hF
        obtain ⟨v18, he17, hF⟩ := hF
        refine j_calls [.long p3.toInt64, .long (Int64.ofNat 0), .long 7] [] E w_RX11_49 (hroom 0 6 (by decide) (by decide)) hAA (c11_isIn _ κ A (HS κ A s0) _ _ _  he17) (fun _ h => h) (fun _ _ _ h _ _ => h) rfl rfl (Nat.le_of_ble_eq_true rfl) d_c11_keep_28 ⟨Nat.zero_le _, Nat.zero_le _⟩ ?_
        refine j_if_eq (tgt := 47) E d_c11_keep_31 (by decide) (fun h19 => ?_) (fun h19 => ?_)
        · replace hF := g_t hF h19
          refine j_blk (pc' := 48) (lv' := [(0, .ref a0), (1, .int p1), (2, .int p2), (3, .int p3), (4, .int p4)]) (st' := [.int (Int32.ofInt (-1))]) E b_c11_keep_47_1 rfl ?_
          have e : res = (Int32.ofInt (-1), s0) := g_inj hF
          subst e
          exact j_iret E hQ d_c11_keep_48 (fun _ h => h)
        · replace hF := g_f hF h19
          refine j_blk (pc' := 38) (lv' := [(0, .ref a0), (1, .int p1), (2, .int p2), (3, .int p3), (4, .int p4)]) (st' := [.long (Int64.ofNat 0), .long p4.toInt64]) E b_c11_keep_34_3 rfl ?_
          refine j_ldc2 (u := 9) E d_c11_keep_38 m_1046 ?_
          replace hF := obd_at hF
          obtain ⟨v21, he20, hF⟩ := hF
          refine j_calls [.long p4.toInt64, .long (Int64.ofNat 0), .long 9] [] E w_RX11_49 (hroom 0 6 (by decide) (by decide)) hAA (c11_isIn _ κ A (HS κ A s0) _ _ _  he20) (fun _ h => h) (fun _ _ _ h _ _ => h) rfl rfl (Nat.le_of_ble_eq_true rfl) d_c11_keep_41 ⟨Nat.zero_le _, Nat.zero_le _⟩ ?_
          refine j_if_ne (tgt := 49) E d_c11_keep_44 (by decide) (fun h22 => ?_) (fun h22 => ?_)
          · replace hF := g_f hF h22
            exact kp49 hF
          · replace hF := g_t hF h22
            refine j_blk (pc' := 48) (lv' := [(0, .ref a0), (1, .int p1), (2, .int p2), (3, .int p3), (4, .int p4)]) (st' := [.int (Int32.ofInt (-1))]) E b_c11_keep_47_1 rfl ?_
            have e : res = (Int32.ofInt (-1), s0) := g_inj hF
            subst e
            exact j_iret E hQ d_c11_keep_48 (fun _ h => h)
theorem b_c11_row_0_1 : bdec cX11_row 0 [.iload_n 1] = true := by decide +kernel
theorem d_c11_row_1 : decode cX11_row 1 = .ok (.invokestatic 131, 3) := by decide +kernel
theorem d_c11_row_4 : decode cX11_row 4 = .ok (.ifCond .eq 21, 3) := by decide +kernel
theorem b_c11_row_25_1 : bdec cX11_row 25 [.iconst (-1)] = true := by decide +kernel
theorem d_c11_row_26 : decode cX11_row 26 = .ok (.ireturn, 1) := by decide +kernel
theorem b_c11_row_7_3 : bdec cX11_row 7 [.iload_n 2, .i2l, .lconst 0] = true := by decide +kernel
theorem d_c11_row_10 : decode cX11_row 10 = .ok (.ldc2_w 53, 3) := by decide +kernel
theorem d_c11_row_13 : decode cX11_row 13 = .ok (.invokestatic 49, 3) := by decide +kernel
theorem d_c11_row_16 : decode cX11_row 16 = .ok (.ifCond .eq 9, 3) := by decide +kernel
theorem b_c11_row_19_2 : bdec cX11_row 19 [.iload_n 3, .bipush 100] = true := by decide +kernel
theorem d_c11_row_22 : decode cX11_row 22 = .ok (.if_icmp .le 5, 3) := by decide +kernel
theorem b_c11_row_27_1 : bdec cX11_row 27 [.iload_n 3] = true := by decide +kernel
theorem d_c11_row_28 : decode cX11_row 28 = .ok (.ifCond .ge 6, 3) := by decide +kernel
theorem b_c11_row_34_1 : bdec cX11_row 34 [.aload_n 0] = true := by decide +kernel
theorem d_c11_row_35 : decode cX11_row 35 = .ok (.getfield 22, 3) := by decide +kernel
theorem b_c11_row_38_2 : bdec cX11_row 38 [.iload_n 1, .iconst 2] = true := by decide +kernel
theorem d_c11_row_40 : decode cX11_row 40 = .ok (.iastore, 1) := by decide +kernel
theorem b_c11_row_41_1 : bdec cX11_row 41 [.aload_n 0] = true := by decide +kernel
theorem d_c11_row_42 : decode cX11_row 42 = .ok (.getfield 25, 3) := by decide +kernel
theorem b_c11_row_45_2 : bdec cX11_row 45 [.iload_n 1, .iload_n 2] = true := by decide +kernel
theorem d_c11_row_47 : decode cX11_row 47 = .ok (.iastore, 1) := by decide +kernel
theorem b_c11_row_48_1 : bdec cX11_row 48 [.aload_n 0] = true := by decide +kernel
theorem d_c11_row_49 : decode cX11_row 49 = .ok (.getfield 28, 3) := by decide +kernel
theorem b_c11_row_52_2 : bdec cX11_row 52 [.iload_n 1, .iload_n 3] = true := by decide +kernel
theorem d_c11_row_54 : decode cX11_row 54 = .ok (.iastore, 1) := by decide +kernel
theorem b_c11_row_55_2 : bdec cX11_row 55 [.iconst 0, .istore 4] = true := by decide +kernel
theorem b_c11_row_58_2 : bdec cX11_row 58 [.iload 4, .bipush 100] = true := by decide +kernel
theorem d_c11_row_62 : decode cX11_row 62 = .ok (.if_icmp .ge 22, 3) := by decide +kernel
theorem b_c11_row_65_1 : bdec cX11_row 65 [.aload_n 0] = true := by decide +kernel
theorem d_c11_row_66 : decode cX11_row 66 = .ok (.getfield 31, 3) := by decide +kernel
theorem b_c11_row_69_6 : bdec cX11_row 69 [.bipush 100, .iload_n 1, .imul, .iload 4, .iadd, .iconst 0] = true := by decide +kernel
theorem d_c11_row_77 : decode cX11_row 77 = .ok (.iastore, 1) := by decide +kernel
theorem b_c11_row_78_1 : bdec cX11_row 78 [.iinc 4 1] = true := by decide +kernel
theorem d_c11_row_81 : decode cX11_row 81 = .ok (.goto (-23), 3) := by decide +kernel
theorem b_c11_row_84_1 : bdec cX11_row 84 [.iconst 0] = true := by decide +kernel
theorem d_c11_row_85 : decode cX11_row 85 = .ok (.ireturn, 1) := by decide +kernel
theorem b_c11_row_31_1 : bdec cX11_row 31 [.bipush (-14)] = true := by decide +kernel
theorem d_c11_row_33 : decode cX11_row 33 = .ok (.ireturn, 1) := by decide +kernel
def f11_row_L58 (a0 : Nat) (p1 : Int32) (w : Int32 × HM) : Option ((Int32 × HM) ⊕ (HM)) := match w with
  | (x58_4, s58) => if ((Int8.ofInt 100).toInt32) ≤ x58_4 then (some (.inr s58)) else (obd (hfld s58 [11] 7 a0) (fun v20 => orf v20 (fun b21 => obd (hast s58 b21 ((((Int8.ofInt 100).toInt32) * p1) + x58_4) (Int32.ofInt 0)) (fun s22 => some (.inl (x58_4 + Int32.ofInt 1, s22))))))
def f11_row (s0 : HM) (a0 : Nat) (p1 : Int32) (p2 : Int32) (p3 : Int32) : Option (Int32 × HM) := obd (f11_isShelf p1) (fun v2 => if v2 = 0 then (some (Int32.ofInt (-1), s0)) else (obd (f11_isIn p2.toInt64 (Int64.ofNat 0) 2) (fun v5 => if v5 = 0 then (some (Int32.ofInt (-1), s0)) else (if p3 ≤ ((Int8.ofInt 100).toInt32) then (if 0 ≤ p3 then (obd (hfld s0 [11] 4 a0) (fun v9 => orf v9 (fun b10 => obd (hast s0 b10 p1 (Int32.ofInt 2)) (fun s11 => obd (hfld s11 [11] 5 a0) (fun v12 => orf v12 (fun b13 => obd (hast s11 b13 p1 p2) (fun s14 => obd (hfld s14 [11] 6 a0) (fun v15 => orf v15 (fun b16 => obd (hast s14 b16 p1 p3) (fun s17 => obd (iter (f11_row_L58 a0 p1) FU (Int32.ofInt 0, s17)) (fun o18 => match o18 with | t58 => some (Int32.ofInt 0, t58)))))))))))) else (some ((Int8.ofInt (-14)).toInt32, s0))) else (some (Int32.ofInt (-1), s0))))))
set_option maxRecDepth 100000 in
set_option maxHeartbeats 4000000 in
theorem c11_row (l : Launch) (κ : KP) (A : Nat → Prop) (s0 : HM) (a0 : Nat) (p1 : Int32) (p2 : Int32) (p3 : Int32) {res : Int32 × HM} (hF : f11_row s0 a0 p1 p2 p3 = some res) : Met l yX11_row (Cond.code yX11_row cX11_row 5 (some .int) :: WT) (rmL 2 0 0) (PP κ A [.ref a0, .int p1, .int p2, .int p3] (HS κ A s0)) (QQ (some (.int res.1)) (HS κ A res.2) A) 0 0 A := by
  refine met_of (own := RX11) (by decide) rfl (Nat.le_of_ble_eq_true rfl) ?_
  intro Γ E hQ hL hR hA hent hini
  have hAA : ∀ q, A q → jA Γ q := fun q h => by rw [hA]; exact h
  have hroom : ∀ (d mL : Nat) {mc ms : Nat}, d < 2 → mL ≤ 21 → (rmL d mc ms).frames + 1 ≤ (jR Γ).frames ∧ 8 + (mL + 11) + (rmL d mc ms).locals ≤ (jR Γ).locals := fun d mL mc ms h1 h2 => by rw [hR]; exact rmL_le h1 h2
  show J Γ 5 (HS κ A s0) 0 0 0 [(0, .ref a0), (1, .int p1), (2, .int p2), (3, .int p3)] []
  unfold f11_row at hF
  refine j_blk (pc' := 1) (lv' := [(0, .ref a0), (1, .int p1), (2, .int p2), (3, .int p3)]) (st' := [.int p1]) E b_c11_row_0_1 rfl ?_
  replace hF := obd_at hF
  obtain ⟨v2, he1, hF⟩ := hF
  refine j_calls [.int p1] [] E w_RX11_131 (hroom 1 1 (by decide) (by decide)) hAA (c11_isShelf _ κ A (HS κ A s0) _  he1) (fun _ h => h) (fun _ _ _ h _ _ => h) rfl rfl (Nat.le_of_ble_eq_true rfl) d_c11_row_1 ⟨Nat.zero_le _, Nat.zero_le _⟩ ?_
  refine j_if_eq (tgt := 25) E d_c11_row_4 (by decide) (fun h3 => ?_) (fun h3 => ?_)
  · replace hF := g_t hF h3
    refine j_blk (pc' := 26) (lv' := [(0, .ref a0), (1, .int p1), (2, .int p2), (3, .int p3)]) (st' := [.int (Int32.ofInt (-1))]) E b_c11_row_25_1 rfl ?_
    have e : res = (Int32.ofInt (-1), s0) := g_inj hF
    subst e
    exact j_iret E hQ d_c11_row_26 (fun _ h => h)
  · replace hF := g_f hF h3
    refine j_blk (pc' := 10) (lv' := [(0, .ref a0), (1, .int p1), (2, .int p2), (3, .int p3)]) (st' := [.long (Int64.ofNat 0), .long p2.toInt64]) E b_c11_row_7_3 rfl ?_
    refine j_ldc2 (u := 2) E d_c11_row_10 m_932 ?_
    replace hF := obd_at hF
    obtain ⟨v5, he4, hF⟩ := hF
    refine j_calls [.long p2.toInt64, .long (Int64.ofNat 0), .long 2] [] E w_RX11_49 (hroom 0 6 (by decide) (by decide)) hAA (c11_isIn _ κ A (HS κ A s0) _ _ _  he4) (fun _ h => h) (fun _ _ _ h _ _ => h) rfl rfl (Nat.le_of_ble_eq_true rfl) d_c11_row_13 ⟨Nat.zero_le _, Nat.zero_le _⟩ ?_
    refine j_if_eq (tgt := 25) E d_c11_row_16 (by decide) (fun h6 => ?_) (fun h6 => ?_)
    · replace hF := g_t hF h6
      refine j_blk (pc' := 26) (lv' := [(0, .ref a0), (1, .int p1), (2, .int p2), (3, .int p3)]) (st' := [.int (Int32.ofInt (-1))]) E b_c11_row_25_1 rfl ?_
      have e : res = (Int32.ofInt (-1), s0) := g_inj hF
      subst e
      exact j_iret E hQ d_c11_row_26 (fun _ h => h)
    · replace hF := g_f hF h6
      refine j_blk (pc' := 22) (lv' := [(0, .ref a0), (1, .int p1), (2, .int p2), (3, .int p3)]) (st' := [.int ((Int8.ofInt 100).toInt32), .int p3]) E b_c11_row_19_2 rfl ?_
      refine j_icmp_le (tgt := 27) E d_c11_row_22 (by decide) (fun h7 => ?_) (fun h7 => ?_)
      · replace hF := g_t hF h7
        refine j_blk (pc' := 28) (lv' := [(0, .ref a0), (1, .int p1), (2, .int p2), (3, .int p3)]) (st' := [.int p3]) E b_c11_row_27_1 rfl ?_
        refine j_if_ge (tgt := 34) E d_c11_row_28 (by decide) (fun h8 => ?_) (fun h8 => ?_)
        · replace hF := g_t hF h8
          refine j_blk (pc' := 35) (lv' := [(0, .ref a0), (1, .int p1), (2, .int p2), (3, .int p3)]) (st' := [.ref a0]) E b_c11_row_34_1 rfl ?_
          replace hF := obd_at hF
          obtain ⟨v9, ev9, hF⟩ := hF
          refine j_getf E fg_RX11_22 d_c11_row_35 ev9 ?_
          refine j_blk (pc' := 40) (lv' := [(0, .ref a0), (1, .int p1), (2, .int p2), (3, .int p3)]) (st' := [.int (Int32.ofInt 2), .int p1, v9]) E b_c11_row_38_2 rfl ?_
          replace hF := orf_at hF
          obtain ⟨b10, rfl, hF⟩ := hF
          replace hF := obd_at hF
          obtain ⟨s11, es11, hF⟩ := hF
          refine j_iast E d_c11_row_40 es11 hAA ?_
          refine j_blk (pc' := 42) (lv' := [(0, .ref a0), (1, .int p1), (2, .int p2), (3, .int p3)]) (st' := [.ref a0]) E b_c11_row_41_1 rfl ?_
          replace hF := obd_at hF
          obtain ⟨v12, ev12, hF⟩ := hF
          refine j_getf E fg_RX11_25 d_c11_row_42 ev12 ?_
          refine j_blk (pc' := 47) (lv' := [(0, .ref a0), (1, .int p1), (2, .int p2), (3, .int p3)]) (st' := [.int p2, .int p1, v12]) E b_c11_row_45_2 rfl ?_
          replace hF := orf_at hF
          obtain ⟨b13, rfl, hF⟩ := hF
          replace hF := obd_at hF
          obtain ⟨s14, es14, hF⟩ := hF
          refine j_iast E d_c11_row_47 es14 hAA ?_
          refine j_blk (pc' := 49) (lv' := [(0, .ref a0), (1, .int p1), (2, .int p2), (3, .int p3)]) (st' := [.ref a0]) E b_c11_row_48_1 rfl ?_
          replace hF := obd_at hF
          obtain ⟨v15, ev15, hF⟩ := hF
          refine j_getf E fg_RX11_28 d_c11_row_49 ev15 ?_
          refine j_blk (pc' := 54) (lv' := [(0, .ref a0), (1, .int p1), (2, .int p2), (3, .int p3)]) (st' := [.int p3, .int p1, v15]) E b_c11_row_52_2 rfl ?_
          replace hF := orf_at hF
          obtain ⟨b16, rfl, hF⟩ := hF
          replace hF := obd_at hF
          obtain ⟨s17, es17, hF⟩ := hF
          refine j_iast E d_c11_row_54 es17 hAA ?_
          refine j_blk (pc' := 58) (lv' := [(4, .int (Int32.ofInt 0)), (0, .ref a0), (1, .int p1), (2, .int p2), (3, .int p3)]) (st' := []) E b_c11_row_55_2 rfl ?_
          refine j_lv [1, 2, 0] rfl ?_
          replace hF := obd_at hF
          obtain ⟨o18, ho18, hF⟩ := hF
          have lpo18 : ∀ (fu : Nat) (w : Int32 × HM) (o : HM), iter (f11_row_L58 a0 p1) fu w = some o → (fun (o : HM) => J Γ 5 (HS κ A o) 0 0 84 [] []) o → (fun (w : Int32 × HM) => J Γ 5 (HS κ A w.2) 0 0 58 [(0, .ref a0), (1, .int p1), (4, .int w.1)] []) w := by
            refine j_iter (P := fun (w : Int32 × HM) => J Γ 5 (HS κ A w.2) 0 0 58 [(0, .ref a0), (1, .int p1), (4, .int w.1)] []) (G := fun (o : HM) => J Γ 5 (HS κ A o) 0 0 84 [] []) ?_
            rintro ⟨x58_4, s58⟩ q hF hI hO
            show J Γ 5 (HS κ A s58) 0 0 58 [(0, .ref a0), (1, .int p1), (4, .int x58_4)] []
            unfold f11_row_L58 at hF
            refine j_blk (pc' := 62) (lv' := [(0, .ref a0), (1, .int p1), (4, .int x58_4)]) (st' := [.int ((Int8.ofInt 100).toInt32), .int x58_4]) E b_c11_row_58_2 rfl ?_
            refine j_icmp_ge (tgt := 84) E d_c11_row_62 (by decide) (fun h19 => ?_) (fun h19 => ?_)
            · replace hF := g_t hF h19
              refine j_lv [] rfl ?_
              exact hO _ (g_inj hF)
            · replace hF := g_f hF h19
              refine j_blk (pc' := 66) (lv' := [(0, .ref a0), (1, .int p1), (4, .int x58_4)]) (st' := [.ref a0]) E b_c11_row_65_1 rfl ?_
              replace hF := obd_at hF
              obtain ⟨v20, ev20, hF⟩ := hF
              refine j_getf E fg_RX11_31 d_c11_row_66 ev20 ?_
              refine j_blk (pc' := 77) (lv' := [(0, .ref a0), (1, .int p1), (4, .int x58_4)]) (st' := [.int (Int32.ofInt 0), .int ((((Int8.ofInt 100).toInt32) * p1) + x58_4), v20]) E b_c11_row_69_6 rfl ?_
              replace hF := orf_at hF
              obtain ⟨b21, rfl, hF⟩ := hF
              replace hF := obd_at hF
              obtain ⟨s22, es22, hF⟩ := hF
              refine j_iast E d_c11_row_77 es22 hAA ?_
              refine j_blk (pc' := 81) (lv' := [(4, .int (x58_4 + Int32.ofInt 1)), (0, .ref a0), (1, .int p1)]) (st' := []) E b_c11_row_78_1 rfl ?_
              refine j_goto (tgt := 58) E d_c11_row_81 (by decide) ?_
              refine j_lv [1, 2, 0] rfl ?_
              exact hI _ (g_inj hF)
          refine lpo18 FU (Int32.ofInt 0, s17) o18 ho18 ?_
          obtain ⟨t58, rfl⟩ : ∃ z, z = o18 := ⟨_, rfl⟩
          show J Γ 5 (HS κ A t58) 0 0 84 [] []
          refine j_blk (pc' := 85) (lv' := []) (st' := [.int (Int32.ofInt 0)]) E b_c11_row_84_1 rfl ?_
          have e : res = (Int32.ofInt 0, t58) := g_inj hF
          subst e
          exact j_iret E hQ d_c11_row_85 (fun _ h => h)
        · replace hF := g_f hF h8
          refine j_blk (pc' := 33) (lv' := [(0, .ref a0), (1, .int p1), (2, .int p2), (3, .int p3)]) (st' := [.int ((Int8.ofInt (-14)).toInt32)]) E b_c11_row_31_1 rfl ?_
          have e : res = ((Int8.ofInt (-14)).toInt32, s0) := g_inj hF
          subst e
          exact j_iret E hQ d_c11_row_33 (fun _ h => h)
      · replace hF := g_f hF h7
        refine j_blk (pc' := 26) (lv' := [(0, .ref a0), (1, .int p1), (2, .int p2), (3, .int p3)]) (st' := [.int (Int32.ofInt (-1))]) E b_c11_row_25_1 rfl ?_
        have e : res = (Int32.ofInt (-1), s0) := g_inj hF
        subst e
        exact j_iret E hQ d_c11_row_26 (fun _ h => h)
theorem b_c11_element_0_2 : bdec cX11_element 0 [.aload_n 0, .iload_n 1] = true := by decide +kernel
theorem d_c11_element_2 : decode cX11_element 2 = .ok (.invokestatic 131, 3) := by decide +kernel
theorem d_c11_element_5 : decode cX11_element 5 = .ok (.ifCond .ne 7, 3) := by decide +kernel
theorem d_c11_element_45 : decode cX11_element 45 = .ok (.putfield 43, 3) := by decide +kernel
theorem b_c11_element_48_1 : bdec cX11_element 48 [.aload_n 0] = true := by decide +kernel
theorem d_c11_element_49 : decode cX11_element 49 = .ok (.getfield 43, 3) := by decide +kernel
theorem d_c11_element_52 : decode cX11_element 52 = .ok (.ifCond .ne 18, 3) := by decide +kernel
theorem b_c11_element_70_1 : bdec cX11_element 70 [.lconst 0] = true := by decide +kernel
theorem d_c11_element_71 : decode cX11_element 71 = .ok (.lreturn, 1) := by decide +kernel
theorem b_c11_element_55_1 : bdec cX11_element 55 [.aload_n 0] = true := by decide +kernel
theorem d_c11_element_56 : decode cX11_element 56 = .ok (.getfield 31, 3) := by decide +kernel
theorem b_c11_element_59_5 : bdec cX11_element 59 [.bipush 100, .iload_n 1, .imul, .iload_n 2, .iadd] = true := by decide +kernel
theorem d_c11_element_65 : decode cX11_element 65 = .ok (.iaload, 1) := by decide +kernel
theorem b_c11_element_66_1 : bdec cX11_element 66 [.i2l] = true := by decide +kernel
theorem d_c11_element_67 : decode cX11_element 67 = .ok (.goto 4, 3) := by decide +kernel
theorem b_c11_element_12_1 : bdec cX11_element 12 [.aload_n 0] = true := by decide +kernel
theorem d_c11_element_13 : decode cX11_element 13 = .ok (.getfield 22, 3) := by decide +kernel
theorem b_c11_element_16_1 : bdec cX11_element 16 [.iload_n 1] = true := by decide +kernel
theorem d_c11_element_17 : decode cX11_element 17 = .ok (.iaload, 1) := by decide +kernel
theorem b_c11_element_18_1 : bdec cX11_element 18 [.iconst 2] = true := by decide +kernel
theorem d_c11_element_19 : decode cX11_element 19 = .ok (.if_icmp .ne 21, 3) := by decide +kernel
theorem b_c11_element_40_1 : bdec cX11_element 40 [.iconst 2] = true := by decide +kernel
theorem d_c11_element_41 : decode cX11_element 41 = .ok (.goto 4, 3) := by decide +kernel
theorem b_c11_element_22_4 : bdec cX11_element 22 [.iload_n 2, .i2l, .lconst 0, .aload_n 0] = true := by decide +kernel
theorem d_c11_element_26 : decode cX11_element 26 = .ok (.getfield 28, 3) := by decide +kernel
theorem b_c11_element_29_1 : bdec cX11_element 29 [.iload_n 1] = true := by decide +kernel
theorem d_c11_element_30 : decode cX11_element 30 = .ok (.iaload, 1) := by decide +kernel
theorem b_c11_element_31_3 : bdec cX11_element 31 [.iconst 1, .isub, .i2l] = true := by decide +kernel
theorem d_c11_element_34 : decode cX11_element 34 = .ok (.invokestatic 49, 3) := by decide +kernel
theorem d_c11_element_37 : decode cX11_element 37 = .ok (.ifCond .ne 7, 3) := by decide +kernel
theorem b_c11_element_44_1 : bdec cX11_element 44 [.iconst 0] = true := by decide +kernel
theorem b_c11_element_8_1 : bdec cX11_element 8 [.iconst 1] = true := by decide +kernel
theorem d_c11_element_9 : decode cX11_element 9 = .ok (.goto 36, 3) := by decide +kernel
def f11_element_K45 (s0 : HM) (a0 : Nat) (p1 : Int32) (p2 : Int32) (k45_t0 : Int32) (k45_t1 : Nat) : Option (Int64 × HM) := obd (hput s0 [11] 11 k45_t1 (.int k45_t0)) (fun s3 => obd (hfi s3 [11] 11 a0) (fun v4 => if v4 = 0 then (obd (hfld s3 [11] 7 a0) (fun v6 => orf v6 (fun b7 => obd (hald s3 b7 ((((Int8.ofInt 100).toInt32) * p1) + p2)) (fun v8 => some (v8.toInt64, s3))))) else (some (Int64.ofNat 0, s3))))
def f11_element (s0 : HM) (a0 : Nat) (p1 : Int32) (p2 : Int32) : Option (Int64 × HM) := obd (f11_isShelf p1) (fun v2 => if v2 = 0 then (f11_element_K45 s0 a0 p1 p2 (Int32.ofInt 1) a0) else (obd (hfld s0 [11] 4 a0) (fun v10 => orf v10 (fun b11 => obd (hald s0 b11 p1) (fun v12 => if v12 = (Int32.ofInt 2) then (obd (hfld s0 [11] 6 a0) (fun v14 => orf v14 (fun b15 => obd (hald s0 b15 p1) (fun v16 => obd (f11_isIn p2.toInt64 (Int64.ofNat 0) ((v16 - (Int32.ofInt 1)).toInt64)) (fun v18 => if v18 = 0 then (f11_element_K45 s0 a0 p1 p2 (Int32.ofInt 2) a0) else (f11_element_K45 s0 a0 p1 p2 (Int32.ofInt 0) a0)))))) else (f11_element_K45 s0 a0 p1 p2 (Int32.ofInt 2) a0))))))
set_option maxRecDepth 100000 in
set_option maxHeartbeats 4000000 in
theorem c11_element (l : Launch) (κ : KP) (A : Nat → Prop) (s0 : HM) (a0 : Nat) (p1 : Int32) (p2 : Int32) {res : Int64 × HM} (hF : f11_element s0 a0 p1 p2 = some res) : Met l yX11_element (Cond.code yX11_element cX11_element 3 (some .long) :: WT) (rmL 2 0 0) (PP κ A [.ref a0, .int p1, .int p2] (HS κ A s0)) (QQ (some (.long res.1)) (HS κ A res.2) A) 0 0 A := by
  refine met_of (own := RX11) (by decide) rfl (Nat.le_of_ble_eq_true rfl) ?_
  intro Γ E hQ hL hR hA hent hini
  have hAA : ∀ q, A q → jA Γ q := fun q h => by rw [hA]; exact h
  have hroom : ∀ (d mL : Nat) {mc ms : Nat}, d < 2 → mL ≤ 21 → (rmL d mc ms).frames + 1 ≤ (jR Γ).frames ∧ 8 + (mL + 11) + (rmL d mc ms).locals ≤ (jR Γ).locals := fun d mL mc ms h1 h2 => by rw [hR]; exact rmL_le h1 h2
  show J Γ 3 (HS κ A s0) 0 0 0 [(0, .ref a0), (1, .int p1), (2, .int p2)] []
  unfold f11_element at hF
  refine j_blk (pc' := 2) (lv' := [(0, .ref a0), (1, .int p1), (2, .int p2)]) (st' := [.int p1, .ref a0]) E b_c11_element_0_2 rfl ?_
  replace hF := obd_at hF
  obtain ⟨v2, he1, hF⟩ := hF
  refine j_calls [.int p1] [.ref a0] E w_RX11_131 (hroom 1 1 (by decide) (by decide)) hAA (c11_isShelf _ κ A (HS κ A s0) _  he1) (fun _ h => h) (fun _ _ _ h _ _ => h) rfl rfl (Nat.le_of_ble_eq_true rfl) d_c11_element_2 ⟨Nat.zero_le _, Nat.zero_le _⟩ ?_
  have kp45 : ∀ (k45_t0 : Int32) (k45_t1 : Nat), f11_element_K45 s0 a0 p1 p2 k45_t0 k45_t1 = some res → J Γ 3 (HS κ A s0) 0 0 45 [(0, .ref a0), (1, .int p1), (2, .int p2)] [.int k45_t0, .ref k45_t1] := by
    intro k45_t0 k45_t1 hF
    unfold f11_element_K45 at hF
    replace hF := obd_at hF
    obtain ⟨s3, es3, hF⟩ := hF
    refine j_put E fp_RX11_43 d_c11_element_45 rfl rfl es3 hAA ?_
    refine j_blk (pc' := 49) (lv' := [(0, .ref a0), (1, .int p1), (2, .int p2)]) (st' := [.ref a0]) E b_c11_element_48_1 rfl ?_
    replace hF := obd_at hF
    obtain ⟨v4, ev4, hF⟩ := hF
    refine j_getI E fg_RX11_43 d_c11_element_49 ev4 ?_
    refine j_if_ne (tgt := 70) E d_c11_element_52 (by decide) (fun h5 => ?_) (fun h5 => ?_)
    · replace hF := g_f hF h5
      refine j_blk (pc' := 71) (lv' := [(0, .ref a0), (1, .int p1), (2, .int p2)]) (st' := [.long (Int64.ofNat 0)]) E b_c11_element_70_1 rfl ?_
      have e : res = (Int64.ofNat 0, s3) := g_inj hF
      subst e
      exact j_lret E hQ d_c11_element_71 (fun _ h => h)
    · replace hF := g_t hF h5
      refine j_blk (pc' := 56) (lv' := [(0, .ref a0), (1, .int p1), (2, .int p2)]) (st' := [.ref a0]) E b_c11_element_55_1 rfl ?_
      replace hF := obd_at hF
      obtain ⟨v6, ev6, hF⟩ := hF
      refine j_getf E fg_RX11_31 d_c11_element_56 ev6 ?_
      refine j_blk (pc' := 65) (lv' := [(0, .ref a0), (1, .int p1), (2, .int p2)]) (st' := [.int ((((Int8.ofInt 100).toInt32) * p1) + p2), v6]) E b_c11_element_59_5 rfl ?_
      replace hF := orf_at hF
      obtain ⟨b7, rfl, hF⟩ := hF
      replace hF := obd_at hF
      obtain ⟨v8, ev8, hF⟩ := hF
      refine j_iald E d_c11_element_65 ev8 ?_
      refine j_blk (pc' := 67) (lv' := [(0, .ref a0), (1, .int p1), (2, .int p2)]) (st' := [.long v8.toInt64]) E b_c11_element_66_1 rfl ?_
      refine j_goto (tgt := 71) E d_c11_element_67 (by decide) ?_
      have e : res = (v8.toInt64, s3) := g_inj hF
      subst e
      exact j_lret E hQ d_c11_element_71 (fun _ h => h)
  refine j_if_ne (tgt := 12) E d_c11_element_5 (by decide) (fun h9 => ?_) (fun h9 => ?_)
  · replace hF := g_f hF h9
    refine j_blk (pc' := 13) (lv' := [(0, .ref a0), (1, .int p1), (2, .int p2)]) (st' := [.ref a0, .ref a0]) E b_c11_element_12_1 rfl ?_
    replace hF := obd_at hF
    obtain ⟨v10, ev10, hF⟩ := hF
    refine j_getf E fg_RX11_22 d_c11_element_13 ev10 ?_
    refine j_blk (pc' := 17) (lv' := [(0, .ref a0), (1, .int p1), (2, .int p2)]) (st' := [.int p1, v10, .ref a0]) E b_c11_element_16_1 rfl ?_
    replace hF := orf_at hF
    obtain ⟨b11, rfl, hF⟩ := hF
    replace hF := obd_at hF
    obtain ⟨v12, ev12, hF⟩ := hF
    refine j_iald E d_c11_element_17 ev12 ?_
    refine j_blk (pc' := 19) (lv' := [(0, .ref a0), (1, .int p1), (2, .int p2)]) (st' := [.int (Int32.ofInt 2), .int v12, .ref a0]) E b_c11_element_18_1 rfl ?_
    refine j_icmp_ne (tgt := 40) E d_c11_element_19 (by decide) (fun h13 => ?_) (fun h13 => ?_)
    · replace hF := g_f hF h13
      refine j_blk (pc' := 41) (lv' := [(0, .ref a0), (1, .int p1), (2, .int p2)]) (st' := [.int (Int32.ofInt 2), .ref a0]) E b_c11_element_40_1 rfl ?_
      refine j_goto (tgt := 45) E d_c11_element_41 (by decide) ?_
      exact kp45 (Int32.ofInt 2) a0 hF
    · replace hF := g_t hF h13
      refine j_blk (pc' := 26) (lv' := [(0, .ref a0), (1, .int p1), (2, .int p2)]) (st' := [.ref a0, .long (Int64.ofNat 0), .long p2.toInt64, .ref a0]) E b_c11_element_22_4 rfl ?_
      replace hF := obd_at hF
      obtain ⟨v14, ev14, hF⟩ := hF
      refine j_getf E fg_RX11_28 d_c11_element_26 ev14 ?_
      refine j_blk (pc' := 30) (lv' := [(0, .ref a0), (1, .int p1), (2, .int p2)]) (st' := [.int p1, v14, .long (Int64.ofNat 0), .long p2.toInt64, .ref a0]) E b_c11_element_29_1 rfl ?_
      replace hF := orf_at hF
      obtain ⟨b15, rfl, hF⟩ := hF
      replace hF := obd_at hF
      obtain ⟨v16, ev16, hF⟩ := hF
      refine j_iald E d_c11_element_30 ev16 ?_
      refine j_blk (pc' := 34) (lv' := [(0, .ref a0), (1, .int p1), (2, .int p2)]) (st' := [.long ((v16 - (Int32.ofInt 1)).toInt64), .long (Int64.ofNat 0), .long p2.toInt64, .ref a0]) E b_c11_element_31_3 rfl ?_
      replace hF := obd_at hF
      obtain ⟨v18, he17, hF⟩ := hF
      refine j_calls [.long p2.toInt64, .long (Int64.ofNat 0), .long ((v16 - (Int32.ofInt 1)).toInt64)] [.ref a0] E w_RX11_49 (hroom 0 6 (by decide) (by decide)) hAA (c11_isIn _ κ A (HS κ A s0) _ _ _  he17) (fun _ h => h) (fun _ _ _ h _ _ => h) rfl rfl (Nat.le_of_ble_eq_true rfl) d_c11_element_34 ⟨Nat.zero_le _, Nat.zero_le _⟩ ?_
      refine j_if_ne (tgt := 44) E d_c11_element_37 (by decide) (fun h19 => ?_) (fun h19 => ?_)
      · replace hF := g_f hF h19
        refine j_blk (pc' := 45) (lv' := [(0, .ref a0), (1, .int p1), (2, .int p2)]) (st' := [.int (Int32.ofInt 0), .ref a0]) E b_c11_element_44_1 rfl ?_
        exact kp45 (Int32.ofInt 0) a0 hF
      · replace hF := g_t hF h19
        refine j_blk (pc' := 41) (lv' := [(0, .ref a0), (1, .int p1), (2, .int p2)]) (st' := [.int (Int32.ofInt 2), .ref a0]) E b_c11_element_40_1 rfl ?_
        refine j_goto (tgt := 45) E d_c11_element_41 (by decide) ?_
        exact kp45 (Int32.ofInt 2) a0 hF
  · replace hF := g_t hF h9
    refine j_blk (pc' := 9) (lv' := [(0, .ref a0), (1, .int p1), (2, .int p2)]) (st' := [.int (Int32.ofInt 1), .ref a0]) E b_c11_element_8_1 rfl ?_
    refine j_goto (tgt := 45) E d_c11_element_9 (by decide) ?_
    exact kp45 (Int32.ofInt 1) a0 hF
theorem b_c11_copy_0_1 : bdec cX11_copy 0 [.iload_n 1] = true := by decide +kernel
theorem d_c11_copy_1 : decode cX11_copy 1 = .ok (.invokestatic 131, 3) := by decide +kernel
theorem d_c11_copy_4 : decode cX11_copy 4 = .ok (.ifCond .eq 10, 3) := by decide +kernel
theorem b_c11_copy_14_1 : bdec cX11_copy 14 [.iconst (-1)] = true := by decide +kernel
theorem d_c11_copy_15 : decode cX11_copy 15 = .ok (.ireturn, 1) := by decide +kernel
theorem b_c11_copy_7_1 : bdec cX11_copy 7 [.iload_n 3] = true := by decide +kernel
theorem d_c11_copy_8 : decode cX11_copy 8 = .ok (.invokestatic 131, 3) := by decide +kernel
theorem d_c11_copy_11 : decode cX11_copy 11 = .ok (.ifCond .ne 5, 3) := by decide +kernel
theorem b_c11_copy_16_1 : bdec cX11_copy 16 [.aload_n 0] = true := by decide +kernel
theorem d_c11_copy_17 : decode cX11_copy 17 = .ok (.getfield 22, 3) := by decide +kernel
theorem b_c11_copy_20_1 : bdec cX11_copy 20 [.iload_n 1] = true := by decide +kernel
theorem d_c11_copy_21 : decode cX11_copy 21 = .ok (.iaload, 1) := by decide +kernel
theorem d_c11_copy_22 : decode cX11_copy 22 = .ok (.ifCond .eq 12, 3) := by decide +kernel
theorem b_c11_copy_34_1 : bdec cX11_copy 34 [.bipush (-11)] = true := by decide +kernel
theorem d_c11_copy_36 : decode cX11_copy 36 = .ok (.ireturn, 1) := by decide +kernel
theorem b_c11_copy_25_1 : bdec cX11_copy 25 [.aload_n 0] = true := by decide +kernel
theorem d_c11_copy_26 : decode cX11_copy 26 = .ok (.getfield 22, 3) := by decide +kernel
theorem b_c11_copy_29_1 : bdec cX11_copy 29 [.iload_n 3] = true := by decide +kernel
theorem d_c11_copy_30 : decode cX11_copy 30 = .ok (.iaload, 1) := by decide +kernel
theorem d_c11_copy_31 : decode cX11_copy 31 = .ok (.ifCond .ne 6, 3) := by decide +kernel
theorem b_c11_copy_37_1 : bdec cX11_copy 37 [.aload_n 0] = true := by decide +kernel
theorem d_c11_copy_38 : decode cX11_copy 38 = .ok (.getfield 22, 3) := by decide +kernel
theorem b_c11_copy_41_1 : bdec cX11_copy 41 [.iload_n 1] = true := by decide +kernel
theorem d_c11_copy_42 : decode cX11_copy 42 = .ok (.iaload, 1) := by decide +kernel
theorem b_c11_copy_43_1 : bdec cX11_copy 43 [.iconst 2] = true := by decide +kernel
theorem d_c11_copy_44 : decode cX11_copy 44 = .ok (.if_icmp .ne 28, 3) := by decide +kernel
theorem b_c11_copy_72_1 : bdec cX11_copy 72 [.bipush (-12)] = true := by decide +kernel
theorem d_c11_copy_74 : decode cX11_copy 74 = .ok (.ireturn, 1) := by decide +kernel
theorem b_c11_copy_47_1 : bdec cX11_copy 47 [.aload_n 0] = true := by decide +kernel
theorem d_c11_copy_48 : decode cX11_copy 48 = .ok (.getfield 22, 3) := by decide +kernel
theorem b_c11_copy_51_1 : bdec cX11_copy 51 [.iload_n 3] = true := by decide +kernel
theorem d_c11_copy_52 : decode cX11_copy 52 = .ok (.iaload, 1) := by decide +kernel
theorem b_c11_copy_53_1 : bdec cX11_copy 53 [.iconst 2] = true := by decide +kernel
theorem d_c11_copy_54 : decode cX11_copy 54 = .ok (.if_icmp .ne 18, 3) := by decide +kernel
theorem b_c11_copy_57_1 : bdec cX11_copy 57 [.aload_n 0] = true := by decide +kernel
theorem d_c11_copy_58 : decode cX11_copy 58 = .ok (.getfield 25, 3) := by decide +kernel
theorem b_c11_copy_61_1 : bdec cX11_copy 61 [.iload_n 1] = true := by decide +kernel
theorem d_c11_copy_62 : decode cX11_copy 62 = .ok (.iaload, 1) := by decide +kernel
theorem b_c11_copy_63_1 : bdec cX11_copy 63 [.aload_n 0] = true := by decide +kernel
theorem d_c11_copy_64 : decode cX11_copy 64 = .ok (.getfield 25, 3) := by decide +kernel
theorem b_c11_copy_67_1 : bdec cX11_copy 67 [.iload_n 3] = true := by decide +kernel
theorem d_c11_copy_68 : decode cX11_copy 68 = .ok (.iaload, 1) := by decide +kernel
theorem d_c11_copy_69 : decode cX11_copy 69 = .ok (.if_icmp .eq 6, 3) := by decide +kernel
theorem b_c11_copy_75_1 : bdec cX11_copy 75 [.iload 5] = true := by decide +kernel
theorem d_c11_copy_77 : decode cX11_copy 77 = .ok (.ifCond .lt 39, 3) := by decide +kernel
theorem b_c11_copy_116_1 : bdec cX11_copy 116 [.bipush (-13)] = true := by decide +kernel
theorem d_c11_copy_118 : decode cX11_copy 118 = .ok (.ireturn, 1) := by decide +kernel
theorem b_c11_copy_80_1 : bdec cX11_copy 80 [.iload_n 2] = true := by decide +kernel
theorem d_c11_copy_81 : decode cX11_copy 81 = .ok (.ifCond .lt 35, 3) := by decide +kernel
theorem b_c11_copy_84_1 : bdec cX11_copy 84 [.iload 4] = true := by decide +kernel
theorem d_c11_copy_86 : decode cX11_copy 86 = .ok (.ifCond .lt 30, 3) := by decide +kernel
theorem b_c11_copy_89_2 : bdec cX11_copy 89 [.iload 5, .aload_n 0] = true := by decide +kernel
theorem d_c11_copy_92 : decode cX11_copy 92 = .ok (.getfield 28, 3) := by decide +kernel
theorem b_c11_copy_95_1 : bdec cX11_copy 95 [.iload_n 1] = true := by decide +kernel
theorem d_c11_copy_96 : decode cX11_copy 96 = .ok (.iaload, 1) := by decide +kernel
theorem b_c11_copy_97_2 : bdec cX11_copy 97 [.iload_n 2, .isub] = true := by decide +kernel
theorem d_c11_copy_99 : decode cX11_copy 99 = .ok (.if_icmp .gt 17, 3) := by decide +kernel
theorem b_c11_copy_102_2 : bdec cX11_copy 102 [.iload 5, .aload_n 0] = true := by decide +kernel
theorem d_c11_copy_105 : decode cX11_copy 105 = .ok (.getfield 28, 3) := by decide +kernel
theorem b_c11_copy_108_1 : bdec cX11_copy 108 [.iload_n 3] = true := by decide +kernel
theorem d_c11_copy_109 : decode cX11_copy 109 = .ok (.iaload, 1) := by decide +kernel
theorem b_c11_copy_110_2 : bdec cX11_copy 110 [.iload 4, .isub] = true := by decide +kernel
theorem d_c11_copy_113 : decode cX11_copy 113 = .ok (.if_icmp .le 6, 3) := by decide +kernel
theorem b_c11_copy_119_2 : bdec cX11_copy 119 [.iconst 0, .istore 6] = true := by decide +kernel
theorem b_c11_copy_122_2 : bdec cX11_copy 122 [.iload 6, .iload 5] = true := by decide +kernel
theorem d_c11_copy_126 : decode cX11_copy 126 = .ok (.if_icmp .ge 58, 3) := by decide +kernel
theorem b_c11_copy_129_2 : bdec cX11_copy 129 [.iload_n 2, .iload 4] = true := by decide +kernel
theorem d_c11_copy_132 : decode cX11_copy 132 = .ok (.if_icmp .le 8, 3) := by decide +kernel
theorem b_c11_copy_147_2 : bdec cX11_copy 147 [.istore 7, .aload_n 0] = true := by decide +kernel
theorem d_c11_copy_150 : decode cX11_copy 150 = .ok (.getfield 31, 3) := by decide +kernel
theorem b_c11_copy_153_8 : bdec cX11_copy 153 [.bipush 100, .iload_n 3, .imul, .iload 4, .iadd, .iload 7, .iadd, .aload_n 0] = true := by decide +kernel
theorem d_c11_copy_164 : decode cX11_copy 164 = .ok (.getfield 31, 3) := by decide +kernel
theorem b_c11_copy_167_7 : bdec cX11_copy 167 [.bipush 100, .iload_n 1, .imul, .iload_n 2, .iadd, .iload 7, .iadd] = true := by decide +kernel
theorem d_c11_copy_176 : decode cX11_copy 176 = .ok (.iaload, 1) := by decide +kernel
theorem d_c11_copy_177 : decode cX11_copy 177 = .ok (.iastore, 1) := by decide +kernel
theorem b_c11_copy_178_1 : bdec cX11_copy 178 [.iinc 6 1] = true := by decide +kernel
theorem d_c11_copy_181 : decode cX11_copy 181 = .ok (.goto (-59), 3) := by decide +kernel
theorem b_c11_copy_140_5 : bdec cX11_copy 140 [.iload 5, .iconst 1, .isub, .iload 6, .isub] = true := by decide +kernel
theorem b_c11_copy_135_1 : bdec cX11_copy 135 [.iload 6] = true := by decide +kernel
theorem d_c11_copy_137 : decode cX11_copy 137 = .ok (.goto 10, 3) := by decide +kernel
theorem b_c11_copy_184_1 : bdec cX11_copy 184 [.iload 5] = true := by decide +kernel
theorem d_c11_copy_186 : decode cX11_copy 186 = .ok (.ireturn, 1) := by decide +kernel
def f11_copy_K147 (s122 : HM) (a0 : Nat) (p1 : Int32) (p2 : Int32) (p3 : Int32) (p4 : Int32) (p5 : Int32) (x122_6 : Int32) (k147_t0 : Int32) : Option ((Int32 × HM) ⊕ (HM)) := obd (hfld s122 [11] 7 a0) (fun v43 => obd (hfld s122 [11] 7 a0) (fun v44 => orf v44 (fun b45 => obd (hald s122 b45 (((((Int8.ofInt 100).toInt32) * p1) + p2) + k147_t0)) (fun v46 => orf v43 (fun b47 => obd (hast s122 b47 (((((Int8.ofInt 100).toInt32) * p3) + p4) + k147_t0) v46) (fun s48 => some (.inl (x122_6 + Int32.ofInt 1, s48))))))))
def f11_copy_L122 (a0 : Nat) (p1 : Int32) (p2 : Int32) (p3 : Int32) (p4 : Int32) (p5 : Int32) (w : Int32 × HM) : Option ((Int32 × HM) ⊕ (HM)) := match w with
  | (x122_6, s122) => if p5 ≤ x122_6 then (some (.inr s122)) else (if p2 ≤ p4 then (f11_copy_K147 s122 a0 p1 p2 p3 p4 p5 x122_6 ((p5 - (Int32.ofInt 1)) - x122_6)) else (f11_copy_K147 s122 a0 p1 p2 p3 p4 p5 x122_6 x122_6))
def f11_copy (s0 : HM) (a0 : Nat) (p1 : Int32) (p2 : Int32) (p3 : Int32) (p4 : Int32) (p5 : Int32) : Option (Int32 × HM) := obd (f11_isShelf p1) (fun v2 => if v2 = 0 then (some (Int32.ofInt (-1), s0)) else (obd (f11_isShelf p3) (fun v5 => if v5 = 0 then (some (Int32.ofInt (-1), s0)) else (obd (hfld s0 [11] 4 a0) (fun v7 => orf v7 (fun b8 => obd (hald s0 b8 p1) (fun v9 => if v9 = 0 then (some ((Int8.ofInt (-11)).toInt32, s0)) else (obd (hfld s0 [11] 4 a0) (fun v11 => orf v11 (fun b12 => obd (hald s0 b12 p3) (fun v13 => if v13 = 0 then (some ((Int8.ofInt (-11)).toInt32, s0)) else (obd (hfld s0 [11] 4 a0) (fun v15 => orf v15 (fun b16 => obd (hald s0 b16 p1) (fun v17 => if v17 = (Int32.ofInt 2) then (obd (hfld s0 [11] 4 a0) (fun v19 => orf v19 (fun b20 => obd (hald s0 b20 p3) (fun v21 => if v21 = (Int32.ofInt 2) then (obd (hfld s0 [11] 5 a0) (fun v23 => orf v23 (fun b24 => obd (hald s0 b24 p1) (fun v25 => obd (hfld s0 [11] 5 a0) (fun v26 => orf v26 (fun b27 => obd (hald s0 b27 p3) (fun v28 => if v25 = v28 then (if p5 < 0 then (some ((Int8.ofInt (-13)).toInt32, s0)) else (if p2 < 0 then (some ((Int8.ofInt (-13)).toInt32, s0)) else (if p4 < 0 then (some ((Int8.ofInt (-13)).toInt32, s0)) else (obd (hfld s0 [11] 6 a0) (fun v33 => orf v33 (fun b34 => obd (hald s0 b34 p1) (fun v35 => if (v35 - p2) < p5 then (some ((Int8.ofInt (-13)).toInt32, s0)) else (obd (hfld s0 [11] 6 a0) (fun v37 => orf v37 (fun b38 => obd (hald s0 b38 p3) (fun v39 => if p5 ≤ (v39 - p4) then (obd (iter (f11_copy_L122 a0 p1 p2 p3 p4 p5) FU (Int32.ofInt 0, s0)) (fun o41 => match o41 with | t122 => some (p5, t122))) else (some ((Int8.ofInt (-13)).toInt32, s0))))))))))))) else (some ((Int8.ofInt (-12)).toInt32, s0))))))))) else (some ((Int8.ofInt (-12)).toInt32, s0)))))) else (some ((Int8.ofInt (-12)).toInt32, s0)))))))))))))))))
set_option maxRecDepth 100000 in
set_option maxHeartbeats 4000000 in
theorem c11_copy (l : Launch) (κ : KP) (A : Nat → Prop) (s0 : HM) (a0 : Nat) (p1 : Int32) (p2 : Int32) (p3 : Int32) (p4 : Int32) (p5 : Int32) {res : Int32 × HM} (hF : f11_copy s0 a0 p1 p2 p3 p4 p5 = some res) : Met l yX11_copy (Cond.code yX11_copy cX11_copy 8 (some .int) :: WT) (rmL 2 0 0) (PP κ A [.ref a0, .int p1, .int p2, .int p3, .int p4, .int p5] (HS κ A s0)) (QQ (some (.int res.1)) (HS κ A res.2) A) 0 0 A := by
  refine met_of (own := RX11) (by decide) rfl (Nat.le_of_ble_eq_true rfl) ?_
  intro Γ E hQ hL hR hA hent hini
  have hAA : ∀ q, A q → jA Γ q := fun q h => by rw [hA]; exact h
  have hroom : ∀ (d mL : Nat) {mc ms : Nat}, d < 2 → mL ≤ 21 → (rmL d mc ms).frames + 1 ≤ (jR Γ).frames ∧ 8 + (mL + 11) + (rmL d mc ms).locals ≤ (jR Γ).locals := fun d mL mc ms h1 h2 => by rw [hR]; exact rmL_le h1 h2
  show J Γ 8 (HS κ A s0) 0 0 0 [(0, .ref a0), (1, .int p1), (2, .int p2), (3, .int p3), (4, .int p4), (5, .int p5)] []
  unfold f11_copy at hF
  refine j_blk (pc' := 1) (lv' := [(0, .ref a0), (1, .int p1), (2, .int p2), (3, .int p3), (4, .int p4), (5, .int p5)]) (st' := [.int p1]) E b_c11_copy_0_1 rfl ?_
  replace hF := obd_at hF
  obtain ⟨v2, he1, hF⟩ := hF
  refine j_calls [.int p1] [] E w_RX11_131 (hroom 1 1 (by decide) (by decide)) hAA (c11_isShelf _ κ A (HS κ A s0) _  he1) (fun _ h => h) (fun _ _ _ h _ _ => h) rfl rfl (Nat.le_of_ble_eq_true rfl) d_c11_copy_1 ⟨Nat.zero_le _, Nat.zero_le _⟩ ?_
  refine j_if_eq (tgt := 14) E d_c11_copy_4 (by decide) (fun h3 => ?_) (fun h3 => ?_)
  · replace hF := g_t hF h3
    refine j_blk (pc' := 15) (lv' := [(0, .ref a0), (1, .int p1), (2, .int p2), (3, .int p3), (4, .int p4), (5, .int p5)]) (st' := [.int (Int32.ofInt (-1))]) E b_c11_copy_14_1 rfl ?_
    have e : res = (Int32.ofInt (-1), s0) := g_inj hF
    subst e
    exact j_iret E hQ d_c11_copy_15 (fun _ h => h)
  · replace hF := g_f hF h3
    refine j_blk (pc' := 8) (lv' := [(0, .ref a0), (1, .int p1), (2, .int p2), (3, .int p3), (4, .int p4), (5, .int p5)]) (st' := [.int p3]) E b_c11_copy_7_1 rfl ?_
    replace hF := obd_at hF
    obtain ⟨v5, he4, hF⟩ := hF
    refine j_calls [.int p3] [] E w_RX11_131 (hroom 1 1 (by decide) (by decide)) hAA (c11_isShelf _ κ A (HS κ A s0) _  he4) (fun _ h => h) (fun _ _ _ h _ _ => h) rfl rfl (Nat.le_of_ble_eq_true rfl) d_c11_copy_8 ⟨Nat.zero_le _, Nat.zero_le _⟩ ?_
    refine j_if_ne (tgt := 16) E d_c11_copy_11 (by decide) (fun h6 => ?_) (fun h6 => ?_)
    · replace hF := g_f hF h6
      refine j_blk (pc' := 17) (lv' := [(0, .ref a0), (1, .int p1), (2, .int p2), (3, .int p3), (4, .int p4), (5, .int p5)]) (st' := [.ref a0]) E b_c11_copy_16_1 rfl ?_
      replace hF := obd_at hF
      obtain ⟨v7, ev7, hF⟩ := hF
      refine j_getf E fg_RX11_22 d_c11_copy_17 ev7 ?_
      refine j_blk (pc' := 21) (lv' := [(0, .ref a0), (1, .int p1), (2, .int p2), (3, .int p3), (4, .int p4), (5, .int p5)]) (st' := [.int p1, v7]) E b_c11_copy_20_1 rfl ?_
      replace hF := orf_at hF
      obtain ⟨b8, rfl, hF⟩ := hF
      replace hF := obd_at hF
      obtain ⟨v9, ev9, hF⟩ := hF
      refine j_iald E d_c11_copy_21 ev9 ?_
      refine j_if_eq (tgt := 34) E d_c11_copy_22 (by decide) (fun h10 => ?_) (fun h10 => ?_)
      · replace hF := g_t hF h10
        refine j_blk (pc' := 36) (lv' := [(0, .ref a0), (1, .int p1), (2, .int p2), (3, .int p3), (4, .int p4), (5, .int p5)]) (st' := [.int ((Int8.ofInt (-11)).toInt32)]) E b_c11_copy_34_1 rfl ?_
        have e : res = ((Int8.ofInt (-11)).toInt32, s0) := g_inj hF
        subst e
        exact j_iret E hQ d_c11_copy_36 (fun _ h => h)
      · replace hF := g_f hF h10
        refine j_blk (pc' := 26) (lv' := [(0, .ref a0), (1, .int p1), (2, .int p2), (3, .int p3), (4, .int p4), (5, .int p5)]) (st' := [.ref a0]) E b_c11_copy_25_1 rfl ?_
        replace hF := obd_at hF
        obtain ⟨v11, ev11, hF⟩ := hF
        refine j_getf E fg_RX11_22 d_c11_copy_26 ev11 ?_
        refine j_blk (pc' := 30) (lv' := [(0, .ref a0), (1, .int p1), (2, .int p2), (3, .int p3), (4, .int p4), (5, .int p5)]) (st' := [.int p3, v11]) E b_c11_copy_29_1 rfl ?_
        replace hF := orf_at hF
        obtain ⟨b12, rfl, hF⟩ := hF
        replace hF := obd_at hF
        obtain ⟨v13, ev13, hF⟩ := hF
        refine j_iald E d_c11_copy_30 ev13 ?_
        refine j_if_ne (tgt := 37) E d_c11_copy_31 (by decide) (fun h14 => ?_) (fun h14 => ?_)
        · replace hF := g_f hF h14
          refine j_blk (pc' := 38) (lv' := [(0, .ref a0), (1, .int p1), (2, .int p2), (3, .int p3), (4, .int p4), (5, .int p5)]) (st' := [.ref a0]) E b_c11_copy_37_1 rfl ?_
          replace hF := obd_at hF
          obtain ⟨v15, ev15, hF⟩ := hF
          refine j_getf E fg_RX11_22 d_c11_copy_38 ev15 ?_
          refine j_blk (pc' := 42) (lv' := [(0, .ref a0), (1, .int p1), (2, .int p2), (3, .int p3), (4, .int p4), (5, .int p5)]) (st' := [.int p1, v15]) E b_c11_copy_41_1 rfl ?_
          replace hF := orf_at hF
          obtain ⟨b16, rfl, hF⟩ := hF
          replace hF := obd_at hF
          obtain ⟨v17, ev17, hF⟩ := hF
          refine j_iald E d_c11_copy_42 ev17 ?_
          refine j_blk (pc' := 44) (lv' := [(0, .ref a0), (1, .int p1), (2, .int p2), (3, .int p3), (4, .int p4), (5, .int p5)]) (st' := [.int (Int32.ofInt 2), .int v17]) E b_c11_copy_43_1 rfl ?_
          refine j_icmp_ne (tgt := 72) E d_c11_copy_44 (by decide) (fun h18 => ?_) (fun h18 => ?_)
          · replace hF := g_f hF h18
            refine j_blk (pc' := 74) (lv' := [(0, .ref a0), (1, .int p1), (2, .int p2), (3, .int p3), (4, .int p4), (5, .int p5)]) (st' := [.int ((Int8.ofInt (-12)).toInt32)]) E b_c11_copy_72_1 rfl ?_
            have e : res = ((Int8.ofInt (-12)).toInt32, s0) := g_inj hF
            subst e
            exact j_iret E hQ d_c11_copy_74 (fun _ h => h)
          · replace hF := g_t hF h18
            refine j_blk (pc' := 48) (lv' := [(0, .ref a0), (1, .int p1), (2, .int p2), (3, .int p3), (4, .int p4), (5, .int p5)]) (st' := [.ref a0]) E b_c11_copy_47_1 rfl ?_
            replace hF := obd_at hF
            obtain ⟨v19, ev19, hF⟩ := hF
            refine j_getf E fg_RX11_22 d_c11_copy_48 ev19 ?_
            refine j_blk (pc' := 52) (lv' := [(0, .ref a0), (1, .int p1), (2, .int p2), (3, .int p3), (4, .int p4), (5, .int p5)]) (st' := [.int p3, v19]) E b_c11_copy_51_1 rfl ?_
            replace hF := orf_at hF
            obtain ⟨b20, rfl, hF⟩ := hF
            replace hF := obd_at hF
            obtain ⟨v21, ev21, hF⟩ := hF
            refine j_iald E d_c11_copy_52 ev21 ?_
            refine j_blk (pc' := 54) (lv' := [(0, .ref a0), (1, .int p1), (2, .int p2), (3, .int p3), (4, .int p4), (5, .int p5)]) (st' := [.int (Int32.ofInt 2), .int v21]) E b_c11_copy_53_1 rfl ?_
            refine j_icmp_ne (tgt := 72) E d_c11_copy_54 (by decide) (fun h22 => ?_) (fun h22 => ?_)
            · replace hF := g_f hF h22
              refine j_blk (pc' := 74) (lv' := [(0, .ref a0), (1, .int p1), (2, .int p2), (3, .int p3), (4, .int p4), (5, .int p5)]) (st' := [.int ((Int8.ofInt (-12)).toInt32)]) E b_c11_copy_72_1 rfl ?_
              have e : res = ((Int8.ofInt (-12)).toInt32, s0) := g_inj hF
              subst e
              exact j_iret E hQ d_c11_copy_74 (fun _ h => h)
            · replace hF := g_t hF h22
              refine j_blk (pc' := 58) (lv' := [(0, .ref a0), (1, .int p1), (2, .int p2), (3, .int p3), (4, .int p4), (5, .int p5)]) (st' := [.ref a0]) E b_c11_copy_57_1 rfl ?_
              replace hF := obd_at hF
              obtain ⟨v23, ev23, hF⟩ := hF
              refine j_getf E fg_RX11_25 d_c11_copy_58 ev23 ?_
              refine j_blk (pc' := 62) (lv' := [(0, .ref a0), (1, .int p1), (2, .int p2), (3, .int p3), (4, .int p4), (5, .int p5)]) (st' := [.int p1, v23]) E b_c11_copy_61_1 rfl ?_
              replace hF := orf_at hF
              obtain ⟨b24, rfl, hF⟩ := hF
              replace hF := obd_at hF
              obtain ⟨v25, ev25, hF⟩ := hF
              refine j_iald E d_c11_copy_62 ev25 ?_
              refine j_blk (pc' := 64) (lv' := [(0, .ref a0), (1, .int p1), (2, .int p2), (3, .int p3), (4, .int p4), (5, .int p5)]) (st' := [.ref a0, .int v25]) E b_c11_copy_63_1 rfl ?_
              replace hF := obd_at hF
              obtain ⟨v26, ev26, hF⟩ := hF
              refine j_getf E fg_RX11_25 d_c11_copy_64 ev26 ?_
              refine j_blk (pc' := 68) (lv' := [(0, .ref a0), (1, .int p1), (2, .int p2), (3, .int p3), (4, .int p4), (5, .int p5)]) (st' := [.int p3, v26, .int v25]) E b_c11_copy_67_1 rfl ?_
              replace hF := orf_at hF
              obtain ⟨b27, rfl, hF⟩ := hF
              replace hF := obd_at hF
              obtain ⟨v28, ev28, hF⟩ := hF
              refine j_iald E d_c11_copy_68 ev28 ?_
              refine j_icmp_eq (tgt := 75) E d_c11_copy_69 (by decide) (fun h29 => ?_) (fun h29 => ?_)
              · replace hF := g_t hF h29
                refine j_blk (pc' := 77) (lv' := [(0, .ref a0), (1, .int p1), (2, .int p2), (3, .int p3), (4, .int p4), (5, .int p5)]) (st' := [.int p5]) E b_c11_copy_75_1 rfl ?_
                refine j_if_lt (tgt := 116) E d_c11_copy_77 (by decide) (fun h30 => ?_) (fun h30 => ?_)
                · replace hF := g_t hF h30
                  refine j_blk (pc' := 118) (lv' := [(0, .ref a0), (1, .int p1), (2, .int p2), (3, .int p3), (4, .int p4), (5, .int p5)]) (st' := [.int ((Int8.ofInt (-13)).toInt32)]) E b_c11_copy_116_1 rfl ?_
                  have e : res = ((Int8.ofInt (-13)).toInt32, s0) := g_inj hF
                  subst e
                  exact j_iret E hQ d_c11_copy_118 (fun _ h => h)
                · replace hF := g_f hF h30
                  refine j_blk (pc' := 81) (lv' := [(0, .ref a0), (1, .int p1), (2, .int p2), (3, .int p3), (4, .int p4), (5, .int p5)]) (st' := [.int p2]) E b_c11_copy_80_1 rfl ?_
                  refine j_if_lt (tgt := 116) E d_c11_copy_81 (by decide) (fun h31 => ?_) (fun h31 => ?_)
                  · replace hF := g_t hF h31
                    refine j_blk (pc' := 118) (lv' := [(0, .ref a0), (1, .int p1), (2, .int p2), (3, .int p3), (4, .int p4), (5, .int p5)]) (st' := [.int ((Int8.ofInt (-13)).toInt32)]) E b_c11_copy_116_1 rfl ?_
                    have e : res = ((Int8.ofInt (-13)).toInt32, s0) := g_inj hF
                    subst e
                    exact j_iret E hQ d_c11_copy_118 (fun _ h => h)
                  · replace hF := g_f hF h31
                    refine j_blk (pc' := 86) (lv' := [(0, .ref a0), (1, .int p1), (2, .int p2), (3, .int p3), (4, .int p4), (5, .int p5)]) (st' := [.int p4]) E b_c11_copy_84_1 rfl ?_
                    refine j_if_lt (tgt := 116) E d_c11_copy_86 (by decide) (fun h32 => ?_) (fun h32 => ?_)
                    · replace hF := g_t hF h32
                      refine j_blk (pc' := 118) (lv' := [(0, .ref a0), (1, .int p1), (2, .int p2), (3, .int p3), (4, .int p4), (5, .int p5)]) (st' := [.int ((Int8.ofInt (-13)).toInt32)]) E b_c11_copy_116_1 rfl ?_
                      have e : res = ((Int8.ofInt (-13)).toInt32, s0) := g_inj hF
                      subst e
                      exact j_iret E hQ d_c11_copy_118 (fun _ h => h)
                    · replace hF := g_f hF h32
                      refine j_blk (pc' := 92) (lv' := [(0, .ref a0), (1, .int p1), (2, .int p2), (3, .int p3), (4, .int p4), (5, .int p5)]) (st' := [.ref a0, .int p5]) E b_c11_copy_89_2 rfl ?_
                      replace hF := obd_at hF
                      obtain ⟨v33, ev33, hF⟩ := hF
                      refine j_getf E fg_RX11_28 d_c11_copy_92 ev33 ?_
                      refine j_blk (pc' := 96) (lv' := [(0, .ref a0), (1, .int p1), (2, .int p2), (3, .int p3), (4, .int p4), (5, .int p5)]) (st' := [.int p1, v33, .int p5]) E b_c11_copy_95_1 rfl ?_
                      replace hF := orf_at hF
                      obtain ⟨b34, rfl, hF⟩ := hF
                      replace hF := obd_at hF
                      obtain ⟨v35, ev35, hF⟩ := hF
                      refine j_iald E d_c11_copy_96 ev35 ?_
                      refine j_blk (pc' := 99) (lv' := [(0, .ref a0), (1, .int p1), (2, .int p2), (3, .int p3), (4, .int p4), (5, .int p5)]) (st' := [.int (v35 - p2), .int p5]) E b_c11_copy_97_2 rfl ?_
                      refine j_icmp_gt (tgt := 116) E d_c11_copy_99 (by decide) (fun h36 => ?_) (fun h36 => ?_)
                      · replace hF := g_t hF h36
                        refine j_blk (pc' := 118) (lv' := [(0, .ref a0), (1, .int p1), (2, .int p2), (3, .int p3), (4, .int p4), (5, .int p5)]) (st' := [.int ((Int8.ofInt (-13)).toInt32)]) E b_c11_copy_116_1 rfl ?_
                        have e : res = ((Int8.ofInt (-13)).toInt32, s0) := g_inj hF
                        subst e
                        exact j_iret E hQ d_c11_copy_118 (fun _ h => h)
                      · replace hF := g_f hF h36
                        refine j_blk (pc' := 105) (lv' := [(0, .ref a0), (1, .int p1), (2, .int p2), (3, .int p3), (4, .int p4), (5, .int p5)]) (st' := [.ref a0, .int p5]) E b_c11_copy_102_2 rfl ?_
                        replace hF := obd_at hF
                        obtain ⟨v37, ev37, hF⟩ := hF
                        refine j_getf E fg_RX11_28 d_c11_copy_105 ev37 ?_
                        refine j_blk (pc' := 109) (lv' := [(0, .ref a0), (1, .int p1), (2, .int p2), (3, .int p3), (4, .int p4), (5, .int p5)]) (st' := [.int p3, v37, .int p5]) E b_c11_copy_108_1 rfl ?_
                        replace hF := orf_at hF
                        obtain ⟨b38, rfl, hF⟩ := hF
                        replace hF := obd_at hF
                        obtain ⟨v39, ev39, hF⟩ := hF
                        refine j_iald E d_c11_copy_109 ev39 ?_
                        refine j_blk (pc' := 113) (lv' := [(0, .ref a0), (1, .int p1), (2, .int p2), (3, .int p3), (4, .int p4), (5, .int p5)]) (st' := [.int (v39 - p4), .int p5]) E b_c11_copy_110_2 rfl ?_
                        refine j_icmp_le (tgt := 119) E d_c11_copy_113 (by decide) (fun h40 => ?_) (fun h40 => ?_)
                        · replace hF := g_t hF h40
                          refine j_blk (pc' := 122) (lv' := [(6, .int (Int32.ofInt 0)), (0, .ref a0), (1, .int p1), (2, .int p2), (3, .int p3), (4, .int p4), (5, .int p5)]) (st' := []) E b_c11_copy_119_2 rfl ?_
                          refine j_lv [1, 2, 3, 4, 5, 6, 0] rfl ?_
                          replace hF := obd_at hF
                          obtain ⟨o41, ho41, hF⟩ := hF
                          have lpo41 : ∀ (fu : Nat) (w : Int32 × HM) (o : HM), iter (f11_copy_L122 a0 p1 p2 p3 p4 p5) fu w = some o → (fun (o : HM) => J Γ 8 (HS κ A o) 0 0 184 [(5, .int p5)] []) o → (fun (w : Int32 × HM) => J Γ 8 (HS κ A w.2) 0 0 122 [(0, .ref a0), (1, .int p1), (2, .int p2), (3, .int p3), (4, .int p4), (5, .int p5), (6, .int w.1)] []) w := by
                            refine j_iter (P := fun (w : Int32 × HM) => J Γ 8 (HS κ A w.2) 0 0 122 [(0, .ref a0), (1, .int p1), (2, .int p2), (3, .int p3), (4, .int p4), (5, .int p5), (6, .int w.1)] []) (G := fun (o : HM) => J Γ 8 (HS κ A o) 0 0 184 [(5, .int p5)] []) ?_
                            rintro ⟨x122_6, s122⟩ q hF hI hO
                            show J Γ 8 (HS κ A s122) 0 0 122 [(0, .ref a0), (1, .int p1), (2, .int p2), (3, .int p3), (4, .int p4), (5, .int p5), (6, .int x122_6)] []
                            unfold f11_copy_L122 at hF
                            refine j_blk (pc' := 126) (lv' := [(0, .ref a0), (1, .int p1), (2, .int p2), (3, .int p3), (4, .int p4), (5, .int p5), (6, .int x122_6)]) (st' := [.int p5, .int x122_6]) E b_c11_copy_122_2 rfl ?_
                            refine j_icmp_ge (tgt := 184) E d_c11_copy_126 (by decide) (fun h42 => ?_) (fun h42 => ?_)
                            · replace hF := g_t hF h42
                              refine j_lv [5] rfl ?_
                              exact hO _ (g_inj hF)
                            · replace hF := g_f hF h42
                              refine j_blk (pc' := 132) (lv' := [(0, .ref a0), (1, .int p1), (2, .int p2), (3, .int p3), (4, .int p4), (5, .int p5), (6, .int x122_6)]) (st' := [.int p4, .int p2]) E b_c11_copy_129_2 rfl ?_
                              have kp147 : ∀ (k147_t0 : Int32), f11_copy_K147 s122 a0 p1 p2 p3 p4 p5 x122_6 k147_t0 = some q → J Γ 8 (HS κ A s122) 0 0 147 [(0, .ref a0), (1, .int p1), (2, .int p2), (3, .int p3), (4, .int p4), (5, .int p5), (6, .int x122_6)] [.int k147_t0] := by
                                intro k147_t0 hF
                                unfold f11_copy_K147 at hF
                                refine j_blk (pc' := 150) (lv' := [(7, .int k147_t0), (0, .ref a0), (1, .int p1), (2, .int p2), (3, .int p3), (4, .int p4), (5, .int p5), (6, .int x122_6)]) (st' := [.ref a0]) E b_c11_copy_147_2 rfl ?_
                                replace hF := obd_at hF
                                obtain ⟨v43, ev43, hF⟩ := hF
                                refine j_getf E fg_RX11_31 d_c11_copy_150 ev43 ?_
                                refine j_blk (pc' := 164) (lv' := [(7, .int k147_t0), (0, .ref a0), (1, .int p1), (2, .int p2), (3, .int p3), (4, .int p4), (5, .int p5), (6, .int x122_6)]) (st' := [.ref a0, .int (((((Int8.ofInt 100).toInt32) * p3) + p4) + k147_t0), v43]) E b_c11_copy_153_8 rfl ?_
                                replace hF := obd_at hF
                                obtain ⟨v44, ev44, hF⟩ := hF
                                refine j_getf E fg_RX11_31 d_c11_copy_164 ev44 ?_
                                refine j_blk (pc' := 176) (lv' := [(7, .int k147_t0), (0, .ref a0), (1, .int p1), (2, .int p2), (3, .int p3), (4, .int p4), (5, .int p5), (6, .int x122_6)]) (st' := [.int (((((Int8.ofInt 100).toInt32) * p1) + p2) + k147_t0), v44, .int (((((Int8.ofInt 100).toInt32) * p3) + p4) + k147_t0), v43]) E b_c11_copy_167_7 rfl ?_
                                replace hF := orf_at hF
                                obtain ⟨b45, rfl, hF⟩ := hF
                                replace hF := obd_at hF
                                obtain ⟨v46, ev46, hF⟩ := hF
                                refine j_iald E d_c11_copy_176 ev46 ?_
                                replace hF := orf_at hF
                                obtain ⟨b47, rfl, hF⟩ := hF
                                replace hF := obd_at hF
                                obtain ⟨s48, es48, hF⟩ := hF
                                refine j_iast E d_c11_copy_177 es48 hAA ?_
                                refine j_blk (pc' := 181) (lv' := [(6, .int (x122_6 + Int32.ofInt 1)), (7, .int k147_t0), (0, .ref a0), (1, .int p1), (2, .int p2), (3, .int p3), (4, .int p4), (5, .int p5)]) (st' := []) E b_c11_copy_178_1 rfl ?_
                                refine j_goto (tgt := 122) E d_c11_copy_181 (by decide) ?_
                                refine j_lv [2, 3, 4, 5, 6, 7, 0] rfl ?_
                                exact hI _ (g_inj hF)
                              refine j_icmp_le (tgt := 140) E d_c11_copy_132 (by decide) (fun h49 => ?_) (fun h49 => ?_)
                              · replace hF := g_t hF h49
                                refine j_blk (pc' := 147) (lv' := [(0, .ref a0), (1, .int p1), (2, .int p2), (3, .int p3), (4, .int p4), (5, .int p5), (6, .int x122_6)]) (st' := [.int ((p5 - (Int32.ofInt 1)) - x122_6)]) E b_c11_copy_140_5 rfl ?_
                                exact kp147 ((p5 - (Int32.ofInt 1)) - x122_6) hF
                              · replace hF := g_f hF h49
                                refine j_blk (pc' := 137) (lv' := [(0, .ref a0), (1, .int p1), (2, .int p2), (3, .int p3), (4, .int p4), (5, .int p5), (6, .int x122_6)]) (st' := [.int x122_6]) E b_c11_copy_135_1 rfl ?_
                                refine j_goto (tgt := 147) E d_c11_copy_137 (by decide) ?_
                                exact kp147 x122_6 hF
                          refine lpo41 FU (Int32.ofInt 0, s0) o41 ho41 ?_
                          obtain ⟨t122, rfl⟩ : ∃ z, z = o41 := ⟨_, rfl⟩
                          show J Γ 8 (HS κ A t122) 0 0 184 [(5, .int p5)] []
                          refine j_blk (pc' := 186) (lv' := [(5, .int p5)]) (st' := [.int p5]) E b_c11_copy_184_1 rfl ?_
                          have e : res = (p5, t122) := g_inj hF
                          subst e
                          exact j_iret E hQ d_c11_copy_186 (fun _ h => h)
                        · replace hF := g_f hF h40
                          refine j_blk (pc' := 118) (lv' := [(0, .ref a0), (1, .int p1), (2, .int p2), (3, .int p3), (4, .int p4), (5, .int p5)]) (st' := [.int ((Int8.ofInt (-13)).toInt32)]) E b_c11_copy_116_1 rfl ?_
                          have e : res = ((Int8.ofInt (-13)).toInt32, s0) := g_inj hF
                          subst e
                          exact j_iret E hQ d_c11_copy_118 (fun _ h => h)
              · replace hF := g_f hF h29
                refine j_blk (pc' := 74) (lv' := [(0, .ref a0), (1, .int p1), (2, .int p2), (3, .int p3), (4, .int p4), (5, .int p5)]) (st' := [.int ((Int8.ofInt (-12)).toInt32)]) E b_c11_copy_72_1 rfl ?_
                have e : res = ((Int8.ofInt (-12)).toInt32, s0) := g_inj hF
                subst e
                exact j_iret E hQ d_c11_copy_74 (fun _ h => h)
        · replace hF := g_t hF h14
          refine j_blk (pc' := 36) (lv' := [(0, .ref a0), (1, .int p1), (2, .int p2), (3, .int p3), (4, .int p4), (5, .int p5)]) (st' := [.int ((Int8.ofInt (-11)).toInt32)]) E b_c11_copy_34_1 rfl ?_
          have e : res = ((Int8.ofInt (-11)).toInt32, s0) := g_inj hF
          subst e
          exact j_iret E hQ d_c11_copy_36 (fun _ h => h)
    · replace hF := g_t hF h6
      refine j_blk (pc' := 15) (lv' := [(0, .ref a0), (1, .int p1), (2, .int p2), (3, .int p3), (4, .int p4), (5, .int p5)]) (st' := [.int (Int32.ofInt (-1))]) E b_c11_copy_14_1 rfl ?_
      have e : res = (Int32.ofInt (-1), s0) := g_inj hF
      subst e
      exact j_iret E hQ d_c11_copy_15 (fun _ h => h)
theorem b_c11_isLawful_0_1 : bdec cX11_isLawful 0 [.aload_n 0] = true := by decide +kernel
theorem d_c11_isLawful_1 : decode cX11_isLawful 1 = .ok (.getfield 9, 3) := by decide +kernel
theorem b_c11_isLawful_4_1 : bdec cX11_isLawful 4 [.iconst 0] = true := by decide +kernel
theorem d_c11_isLawful_5 : decode cX11_isLawful 5 = .ok (.iaload, 1) := by decide +kernel
theorem b_c11_isLawful_6_1 : bdec cX11_isLawful 6 [.aload_n 0] = true := by decide +kernel
theorem d_c11_isLawful_7 : decode cX11_isLawful 7 = .ok (.getfield 9, 3) := by decide +kernel
theorem b_c11_isLawful_10_1 : bdec cX11_isLawful 10 [.iconst 1] = true := by decide +kernel
theorem d_c11_isLawful_11 : decode cX11_isLawful 11 = .ok (.iaload, 1) := by decide +kernel
theorem d_c11_isLawful_12 : decode cX11_isLawful 12 = .ok (.if_icmp .ge 5, 3) := by decide +kernel
theorem b_c11_isLawful_17_2 : bdec cX11_isLawful 17 [.iconst 0, .istore_n 1] = true := by decide +kernel
theorem b_c11_isLawful_19_2 : bdec cX11_isLawful 19 [.iload_n 1, .aload_n 0] = true := by decide +kernel
theorem d_c11_isLawful_21 : decode cX11_isLawful 21 = .ok (.getfield 9, 3) := by decide +kernel
theorem b_c11_isLawful_24_1 : bdec cX11_isLawful 24 [.iconst 0] = true := by decide +kernel
theorem d_c11_isLawful_25 : decode cX11_isLawful 25 = .ok (.iaload, 1) := by decide +kernel
theorem d_c11_isLawful_26 : decode cX11_isLawful 26 = .ok (.if_icmp .ge 68, 3) := by decide +kernel
theorem b_c11_isLawful_29_1 : bdec cX11_isLawful 29 [.aload_n 0] = true := by decide +kernel
theorem d_c11_isLawful_30 : decode cX11_isLawful 30 = .ok (.getfield 9, 3) := by decide +kernel
theorem b_c11_isLawful_33_1 : bdec cX11_isLawful 33 [.iconst 1] = true := by decide +kernel
theorem d_c11_isLawful_34 : decode cX11_isLawful 34 = .ok (.iaload, 1) := by decide +kernel
theorem b_c11_isLawful_35_1 : bdec cX11_isLawful 35 [.iconst 1] = true := by decide +kernel
theorem d_c11_isLawful_36 : decode cX11_isLawful 36 = .ok (.if_icmp .ne 7, 3) := by decide +kernel
theorem b_c11_isLawful_44_1 : bdec cX11_isLawful 44 [.istore_n 2] = true := by decide +kernel
theorem b_c11_isLawful_45_2 : bdec cX11_isLawful 45 [.iload_n 2, .aload_n 0] = true := by decide +kernel
theorem d_c11_isLawful_47 : decode cX11_isLawful 47 = .ok (.getfield 9, 3) := by decide +kernel
theorem b_c11_isLawful_50_1 : bdec cX11_isLawful 50 [.iconst 1] = true := by decide +kernel
theorem d_c11_isLawful_51 : decode cX11_isLawful 51 = .ok (.iaload, 1) := by decide +kernel
theorem b_c11_isLawful_52_1 : bdec cX11_isLawful 52 [.iconst 1] = true := by decide +kernel
theorem d_c11_isLawful_53 : decode cX11_isLawful 53 = .ok (.if_icmp .ne 9, 3) := by decide +kernel
theorem d_c11_isLawful_63 : decode cX11_isLawful 63 = .ok (.if_icmp .ge 25, 3) := by decide +kernel
theorem b_c11_isLawful_66_8 : bdec cX11_isLawful 66 [.aload_n 0, .iconst 1, .iload_n 1, .ishl, .iconst 1, .iload_n 2, .ishl, .ior] = true := by decide +kernel
theorem d_c11_isLawful_74 : decode cX11_isLawful 74 = .ok (.invokevirtual 91, 3) := by decide +kernel
theorem d_c11_isLawful_77 : decode cX11_isLawful 77 = .ok (.ifCond .ne 5, 3) := by decide +kernel
theorem b_c11_isLawful_82_1 : bdec cX11_isLawful 82 [.iinc 2 1] = true := by decide +kernel
theorem d_c11_isLawful_85 : decode cX11_isLawful 85 = .ok (.goto (-40), 3) := by decide +kernel
theorem b_c11_isLawful_80_1 : bdec cX11_isLawful 80 [.iconst 0] = true := by decide +kernel
theorem d_c11_isLawful_81 : decode cX11_isLawful 81 = .ok (.ireturn, 1) := by decide +kernel
theorem b_c11_isLawful_62_1 : bdec cX11_isLawful 62 [.iload_n 1] = true := by decide +kernel
theorem b_c11_isLawful_56_3 : bdec cX11_isLawful 56 [.iload_n 1, .iconst 1, .iadd] = true := by decide +kernel
theorem d_c11_isLawful_59 : decode cX11_isLawful 59 = .ok (.goto 4, 3) := by decide +kernel
theorem b_c11_isLawful_88_1 : bdec cX11_isLawful 88 [.iinc 1 1] = true := by decide +kernel
theorem d_c11_isLawful_91 : decode cX11_isLawful 91 = .ok (.goto (-72), 3) := by decide +kernel
theorem b_c11_isLawful_43_1 : bdec cX11_isLawful 43 [.iconst 0] = true := by decide +kernel
theorem b_c11_isLawful_39_1 : bdec cX11_isLawful 39 [.iload_n 1] = true := by decide +kernel
theorem d_c11_isLawful_40 : decode cX11_isLawful 40 = .ok (.goto 4, 3) := by decide +kernel
theorem b_c11_isLawful_94_1 : bdec cX11_isLawful 94 [.iconst 1] = true := by decide +kernel
theorem d_c11_isLawful_95 : decode cX11_isLawful 95 = .ok (.ireturn, 1) := by decide +kernel
theorem b_c11_isLawful_15_1 : bdec cX11_isLawful 15 [.iconst 1] = true := by decide +kernel
theorem d_c11_isLawful_16 : decode cX11_isLawful 16 = .ok (.ireturn, 1) := by decide +kernel
def f11_isLawful_K63 (s0 : HM) (a0 : Nat) (x19_1 : Int32) (x45_2 : Int32) (k63_t0 : Int32) (k63_t1 : Int32) : Option ((Int32) ⊕ ((Int32) ⊕ (Unit))) := if k63_t0 ≤ k63_t1 then (some (.inr (.inr ()))) else (ocl s0 a0 11 (obd (f11_mastersOf s0 a0 (((Int32.ofInt 1) <<< (x19_1 &&& 31)) ||| ((Int32.ofInt 1) <<< (x45_2 &&& 31)))) (fun v22 => if v22 = 0 then (some (.inr (.inl (Int32.ofInt 0)))) else (some (.inl (x45_2 + Int32.ofInt 1))))))
def f11_isLawful_L45 (s0 : HM) (a0 : Nat) (x19_1 : Int32) (w : Int32) : Option ((Int32) ⊕ ((Int32) ⊕ (Unit))) := match w with
  | x45_2 => obd (hfld s0 [11] 0 a0) (fun v17 => orf v17 (fun b18 => obd (hald s0 b18 (Int32.ofInt 1)) (fun v19 => if v19 = (Int32.ofInt 1) then (f11_isLawful_K63 s0 a0 x19_1 x45_2 (x19_1 + (Int32.ofInt 1)) x45_2) else (f11_isLawful_K63 s0 a0 x19_1 x45_2 x19_1 x45_2))))
def f11_isLawful_K44 (s0 : HM) (a0 : Nat) (x19_1 : Int32) (k44_t0 : Int32) : Option ((Int32) ⊕ ((Int32) ⊕ (Unit))) := obd (iter (f11_isLawful_L45 s0 a0 x19_1) FU k44_t0) (fun o16 => osm o16 (fun o16 => some (.inr (.inl o16))) (fun o16 => some (.inl (x19_1 + Int32.ofInt 1))))
def f11_isLawful_L19 (s0 : HM) (a0 : Nat) (w : Int32) : Option ((Int32) ⊕ ((Int32) ⊕ (Unit))) := match w with
  | x19_1 => obd (hfld s0 [11] 0 a0) (fun v9 => orf v9 (fun b10 => obd (hald s0 b10 (Int32.ofInt 0)) (fun v11 => if v11 ≤ x19_1 then (some (.inr (.inr ()))) else (obd (hfld s0 [11] 0 a0) (fun v13 => orf v13 (fun b14 => obd (hald s0 b14 (Int32.ofInt 1)) (fun v15 => if v15 = (Int32.ofInt 1) then (f11_isLawful_K44 s0 a0 x19_1 x19_1) else (f11_isLawful_K44 s0 a0 x19_1 (Int32.ofInt 0)))))))))
def f11_isLawful (s0 : HM) (a0 : Nat) : Option (Int32) := obd (hfld s0 [11] 0 a0) (fun v1 => orf v1 (fun b2 => obd (hald s0 b2 (Int32.ofInt 0)) (fun v3 => obd (hfld s0 [11] 0 a0) (fun v4 => orf v4 (fun b5 => obd (hald s0 b5 (Int32.ofInt 1)) (fun v6 => if v6 ≤ v3 then (obd (iter (f11_isLawful_L19 s0 a0) FU (Int32.ofInt 0)) (fun o8 => osm o8 (fun o8 => some o8) (fun o8 => some (Int32.ofInt 1)))) else (some (Int32.ofInt 1))))))))
set_option maxRecDepth 100000 in
set_option maxHeartbeats 4000000 in
theorem c11_isLawful (l : Launch) (κ : KP) (A : Nat → Prop) (s0 : HM) (a0 : Nat) {res : Int32} (hF : f11_isLawful s0 a0 = some res) : Met l yX11_isLawful (Cond.code yX11_isLawful cX11_isLawful 3 (some .boolean) :: WT) (rmL 3 0 0) (PP κ A [.ref a0] (HS κ A s0)) (QQ (some (.int res)) (HS κ A s0) A) 0 0 A := by
  refine met_of (own := RX11) (by decide) rfl (Nat.le_of_ble_eq_true rfl) ?_
  intro Γ E hQ hL hR hA hent hini
  have hAA : ∀ q, A q → jA Γ q := fun q h => by rw [hA]; exact h
  have hroom : ∀ (d mL : Nat) {mc ms : Nat}, d < 3 → mL ≤ 21 → (rmL d mc ms).frames + 1 ≤ (jR Γ).frames ∧ 8 + (mL + 11) + (rmL d mc ms).locals ≤ (jR Γ).locals := fun d mL mc ms h1 h2 => by rw [hR]; exact rmL_le h1 h2
  show J Γ 3 (HS κ A s0) 0 0 0 [(0, .ref a0)] []
  unfold f11_isLawful at hF
  refine j_blk (pc' := 1) (lv' := [(0, .ref a0)]) (st' := [.ref a0]) E b_c11_isLawful_0_1 rfl ?_
  replace hF := obd_at hF
  obtain ⟨v1, ev1, hF⟩ := hF
  refine j_getf E fg_RX11_9 d_c11_isLawful_1 ev1 ?_
  refine j_blk (pc' := 5) (lv' := [(0, .ref a0)]) (st' := [.int (Int32.ofInt 0), v1]) E b_c11_isLawful_4_1 rfl ?_
  replace hF := orf_at hF
  obtain ⟨b2, rfl, hF⟩ := hF
  replace hF := obd_at hF
  obtain ⟨v3, ev3, hF⟩ := hF
  refine j_iald E d_c11_isLawful_5 ev3 ?_
  refine j_blk (pc' := 7) (lv' := [(0, .ref a0)]) (st' := [.ref a0, .int v3]) E b_c11_isLawful_6_1 rfl ?_
  replace hF := obd_at hF
  obtain ⟨v4, ev4, hF⟩ := hF
  refine j_getf E fg_RX11_9 d_c11_isLawful_7 ev4 ?_
  refine j_blk (pc' := 11) (lv' := [(0, .ref a0)]) (st' := [.int (Int32.ofInt 1), v4, .int v3]) E b_c11_isLawful_10_1 rfl ?_
  replace hF := orf_at hF
  obtain ⟨b5, rfl, hF⟩ := hF
  replace hF := obd_at hF
  obtain ⟨v6, ev6, hF⟩ := hF
  refine j_iald E d_c11_isLawful_11 ev6 ?_
  refine j_icmp_ge (tgt := 17) E d_c11_isLawful_12 (by decide) (fun h7 => ?_) (fun h7 => ?_)
  · replace hF := g_t hF h7
    refine j_blk (pc' := 19) (lv' := [(1, .int (Int32.ofInt 0)), (0, .ref a0)]) (st' := []) E b_c11_isLawful_17_2 rfl ?_
    refine j_lv [1, 0] rfl ?_
    replace hF := obd_at hF
    obtain ⟨o8, ho8, hF⟩ := hF
    have lpo8 : ∀ (fu : Nat) (w : Int32) (o : (Int32) ⊕ (Unit)), iter (f11_isLawful_L19 s0 a0) fu w = some o → (fun (o : (Int32) ⊕ (Unit)) => match o with | .inl r => r = res | .inr o => J Γ 3 (HS κ A s0) 0 0 94 [] []) o → (fun (w : Int32) => J Γ 3 (HS κ A s0) 0 0 19 [(0, .ref a0), (1, .int w)] []) w := by
      refine j_iter (P := fun (w : Int32) => J Γ 3 (HS κ A s0) 0 0 19 [(0, .ref a0), (1, .int w)] []) (G := fun (o : (Int32) ⊕ (Unit)) => match o with | .inl r => r = res | .inr o => J Γ 3 (HS κ A s0) 0 0 94 [] []) ?_
      intro x19_1 q hF hI hO
      show J Γ 3 (HS κ A s0) 0 0 19 [(0, .ref a0), (1, .int x19_1)] []
      unfold f11_isLawful_L19 at hF
      refine j_blk (pc' := 21) (lv' := [(0, .ref a0), (1, .int x19_1)]) (st' := [.ref a0, .int x19_1]) E b_c11_isLawful_19_2 rfl ?_
      replace hF := obd_at hF
      obtain ⟨v9, ev9, hF⟩ := hF
      refine j_getf E fg_RX11_9 d_c11_isLawful_21 ev9 ?_
      refine j_blk (pc' := 25) (lv' := [(0, .ref a0), (1, .int x19_1)]) (st' := [.int (Int32.ofInt 0), v9, .int x19_1]) E b_c11_isLawful_24_1 rfl ?_
      replace hF := orf_at hF
      obtain ⟨b10, rfl, hF⟩ := hF
      replace hF := obd_at hF
      obtain ⟨v11, ev11, hF⟩ := hF
      refine j_iald E d_c11_isLawful_25 ev11 ?_
      refine j_icmp_ge (tgt := 94) E d_c11_isLawful_26 (by decide) (fun h12 => ?_) (fun h12 => ?_)
      · replace hF := g_t hF h12
        refine j_lv [] rfl ?_
        exact hO _ (g_inj hF)
      · replace hF := g_f hF h12
        refine j_blk (pc' := 30) (lv' := [(0, .ref a0), (1, .int x19_1)]) (st' := [.ref a0]) E b_c11_isLawful_29_1 rfl ?_
        replace hF := obd_at hF
        obtain ⟨v13, ev13, hF⟩ := hF
        refine j_getf E fg_RX11_9 d_c11_isLawful_30 ev13 ?_
        refine j_blk (pc' := 34) (lv' := [(0, .ref a0), (1, .int x19_1)]) (st' := [.int (Int32.ofInt 1), v13]) E b_c11_isLawful_33_1 rfl ?_
        replace hF := orf_at hF
        obtain ⟨b14, rfl, hF⟩ := hF
        replace hF := obd_at hF
        obtain ⟨v15, ev15, hF⟩ := hF
        refine j_iald E d_c11_isLawful_34 ev15 ?_
        refine j_blk (pc' := 36) (lv' := [(0, .ref a0), (1, .int x19_1)]) (st' := [.int (Int32.ofInt 1), .int v15]) E b_c11_isLawful_35_1 rfl ?_
        have kp44 : ∀ (k44_t0 : Int32), f11_isLawful_K44 s0 a0 x19_1 k44_t0 = some q → J Γ 3 (HS κ A s0) 0 0 44 [(0, .ref a0), (1, .int x19_1)] [.int k44_t0] := by
          intro k44_t0 hF
          unfold f11_isLawful_K44 at hF
          refine j_blk (pc' := 45) (lv' := [(2, .int k44_t0), (0, .ref a0), (1, .int x19_1)]) (st' := []) E b_c11_isLawful_44_1 rfl ?_
          refine j_lv [1, 2, 0] rfl ?_
          replace hF := obd_at hF
          obtain ⟨o16, ho16, hF⟩ := hF
          have lpo16 : ∀ (fu : Nat) (w : Int32) (o : (Int32) ⊕ (Unit)), iter (f11_isLawful_L45 s0 a0 x19_1) fu w = some o → (fun (o : (Int32) ⊕ (Unit)) => match o with | .inl r => r = res | .inr o => J Γ 3 (HS κ A s0) 0 0 88 [(0, .ref a0), (1, .int x19_1)] []) o → (fun (w : Int32) => J Γ 3 (HS κ A s0) 0 0 45 [(0, .ref a0), (1, .int x19_1), (2, .int w)] []) w := by
            refine j_iter (P := fun (w : Int32) => J Γ 3 (HS κ A s0) 0 0 45 [(0, .ref a0), (1, .int x19_1), (2, .int w)] []) (G := fun (o : (Int32) ⊕ (Unit)) => match o with | .inl r => r = res | .inr o => J Γ 3 (HS κ A s0) 0 0 88 [(0, .ref a0), (1, .int x19_1)] []) ?_
            intro x45_2 q hF hI hO
            show J Γ 3 (HS κ A s0) 0 0 45 [(0, .ref a0), (1, .int x19_1), (2, .int x45_2)] []
            unfold f11_isLawful_L45 at hF
            refine j_blk (pc' := 47) (lv' := [(0, .ref a0), (1, .int x19_1), (2, .int x45_2)]) (st' := [.ref a0, .int x45_2]) E b_c11_isLawful_45_2 rfl ?_
            replace hF := obd_at hF
            obtain ⟨v17, ev17, hF⟩ := hF
            refine j_getf E fg_RX11_9 d_c11_isLawful_47 ev17 ?_
            refine j_blk (pc' := 51) (lv' := [(0, .ref a0), (1, .int x19_1), (2, .int x45_2)]) (st' := [.int (Int32.ofInt 1), v17, .int x45_2]) E b_c11_isLawful_50_1 rfl ?_
            replace hF := orf_at hF
            obtain ⟨b18, rfl, hF⟩ := hF
            replace hF := obd_at hF
            obtain ⟨v19, ev19, hF⟩ := hF
            refine j_iald E d_c11_isLawful_51 ev19 ?_
            refine j_blk (pc' := 53) (lv' := [(0, .ref a0), (1, .int x19_1), (2, .int x45_2)]) (st' := [.int (Int32.ofInt 1), .int v19, .int x45_2]) E b_c11_isLawful_52_1 rfl ?_
            have kp63 : ∀ (k63_t0 : Int32) (k63_t1 : Int32), f11_isLawful_K63 s0 a0 x19_1 x45_2 k63_t0 k63_t1 = some q → J Γ 3 (HS κ A s0) 0 0 63 [(0, .ref a0), (1, .int x19_1), (2, .int x45_2)] [.int k63_t0, .int k63_t1] := by
              intro k63_t0 k63_t1 hF
              unfold f11_isLawful_K63 at hF
              refine j_icmp_ge (tgt := 88) E d_c11_isLawful_63 (by decide) (fun h20 => ?_) (fun h20 => ?_)
              · replace hF := g_t hF h20
                refine j_lv [0, 1] rfl ?_
                exact hO _ (g_inj hF)
              · replace hF := g_f hF h20
                refine j_blk (pc' := 74) (lv' := [(0, .ref a0), (1, .int x19_1), (2, .int x45_2)]) (st' := [.int (((Int32.ofInt 1) <<< (x19_1 &&& 31)) ||| ((Int32.ofInt 1) <<< (x45_2 &&& 31))), .ref a0]) E b_c11_isLawful_66_8 rfl ?_
                replace hF := ocl_at hF
                obtain ⟨hc, hF⟩ := hF
                replace hF := obd_at hF
                obtain ⟨v22, he21, hF⟩ := hF
                refine j_callv [.int (((Int32.ofInt 1) <<< (x19_1 &&& 31)) ||| ((Int32.ofInt 1) <<< (x45_2 &&& 31)))] [] E w_RX11_91 (hroom 2 4 (by decide) (by decide)) hAA (c11_mastersOf _ κ A _ _ _  he21) (fun _ h => h) (fun _ _ _ h _ _ => h) (fun _ h => j_recv E h hc rfl) rfl rfl (Nat.le_of_ble_eq_true rfl) d_c11_isLawful_74 ⟨Nat.zero_le _, Nat.zero_le _⟩ ?_
                refine j_if_ne (tgt := 82) E d_c11_isLawful_77 (by decide) (fun h23 => ?_) (fun h23 => ?_)
                · replace hF := g_f hF h23
                  refine j_blk (pc' := 85) (lv' := [(2, .int (x45_2 + Int32.ofInt 1)), (0, .ref a0), (1, .int x19_1)]) (st' := []) E b_c11_isLawful_82_1 rfl ?_
                  refine j_goto (tgt := 45) E d_c11_isLawful_85 (by decide) ?_
                  refine j_lv [1, 2, 0] rfl ?_
                  exact hI _ (g_inj hF)
                · replace hF := g_t hF h23
                  refine j_blk (pc' := 81) (lv' := [(0, .ref a0), (1, .int x19_1), (2, .int x45_2)]) (st' := [.int (Int32.ofInt 0)]) E b_c11_isLawful_80_1 rfl ?_
                  have e : Int32.ofInt 0 = res := hO _ (g_inj hF)
                  subst e
                  exact j_zret E hQ nb_0 d_c11_isLawful_81 (fun _ h => h)
            refine j_icmp_ne (tgt := 62) E d_c11_isLawful_53 (by decide) (fun h24 => ?_) (fun h24 => ?_)
            · replace hF := g_f hF h24
              refine j_blk (pc' := 63) (lv' := [(0, .ref a0), (1, .int x19_1), (2, .int x45_2)]) (st' := [.int x19_1, .int x45_2]) E b_c11_isLawful_62_1 rfl ?_
              exact kp63 x19_1 x45_2 hF
            · replace hF := g_t hF h24
              refine j_blk (pc' := 59) (lv' := [(0, .ref a0), (1, .int x19_1), (2, .int x45_2)]) (st' := [.int (x19_1 + (Int32.ofInt 1)), .int x45_2]) E b_c11_isLawful_56_3 rfl ?_
              refine j_goto (tgt := 63) E d_c11_isLawful_59 (by decide) ?_
              exact kp63 (x19_1 + (Int32.ofInt 1)) x45_2 hF
          refine lpo16 FU k44_t0 o16 ho16 ?_
          rcases o16 with o16 | o16
          · exact hO _ (g_inj hF)
          · skip
            show J Γ 3 (HS κ A s0) 0 0 88 [(0, .ref a0), (1, .int x19_1)] []
            refine j_blk (pc' := 91) (lv' := [(1, .int (x19_1 + Int32.ofInt 1)), (0, .ref a0)]) (st' := []) E b_c11_isLawful_88_1 rfl ?_
            refine j_goto (tgt := 19) E d_c11_isLawful_91 (by decide) ?_
            refine j_lv [1, 0] rfl ?_
            exact hI _ (g_inj hF)
        refine j_icmp_ne (tgt := 43) E d_c11_isLawful_36 (by decide) (fun h25 => ?_) (fun h25 => ?_)
        · replace hF := g_f hF h25
          refine j_blk (pc' := 44) (lv' := [(0, .ref a0), (1, .int x19_1)]) (st' := [.int (Int32.ofInt 0)]) E b_c11_isLawful_43_1 rfl ?_
          exact kp44 (Int32.ofInt 0) hF
        · replace hF := g_t hF h25
          refine j_blk (pc' := 40) (lv' := [(0, .ref a0), (1, .int x19_1)]) (st' := [.int x19_1]) E b_c11_isLawful_39_1 rfl ?_
          refine j_goto (tgt := 44) E d_c11_isLawful_40 (by decide) ?_
          exact kp44 x19_1 hF
    refine lpo8 FU (Int32.ofInt 0) o8 ho8 ?_
    rcases o8 with o8 | o8
    · exact (g_inj hF).symm
    · skip
      show J Γ 3 (HS κ A s0) 0 0 94 [] []
      refine j_blk (pc' := 95) (lv' := []) (st' := [.int (Int32.ofInt 1)]) E b_c11_isLawful_94_1 rfl ?_
      have e : res = Int32.ofInt 1 := g_inj hF
      subst e
      exact j_zret E hQ nb_1 d_c11_isLawful_95 (fun _ h => h)
  · replace hF := g_f hF h7
    refine j_blk (pc' := 16) (lv' := [(0, .ref a0)]) (st' := [.int (Int32.ofInt 1)]) E b_c11_isLawful_15_1 rfl ?_
    have e : res = Int32.ofInt 1 := g_inj hF
    subst e
    exact j_zret E hQ nb_1 d_c11_isLawful_16 (fun _ h => h)
theorem b_c11_comesTold_0_1 : bdec cX11_comesTold 0 [.aload_n 0] = true := by decide +kernel
theorem d_c11_comesTold_1 : decode cX11_comesTold 1 = .ok (.getfield 40, 3) := by decide +kernel
theorem b_c11_comesTold_4_1 : bdec cX11_comesTold 4 [.iconst 0] = true := by decide +kernel
theorem d_c11_comesTold_5 : decode cX11_comesTold 5 = .ok (.iaload, 1) := by decide +kernel
theorem b_c11_comesTold_6_2 : bdec cX11_comesTold 6 [.istore_n 2, .iload_n 1] = true := by decide +kernel
theorem d_c11_comesTold_8 : decode cX11_comesTold 8 = .ok (.lookupswitch 109 #[(108, 91), (112, 36), (119, 62)], 36) := by decide +kernel
theorem b_c11_comesTold_99_1 : bdec cX11_comesTold 99 [.iload_n 2] = true := by decide +kernel
theorem d_c11_comesTold_100 : decode cX11_comesTold 100 = .ok (.invokestatic 124, 3) := by decide +kernel
theorem d_c11_comesTold_103 : decode cX11_comesTold 103 = .ok (.ifCond .ne 5, 3) := by decide +kernel
theorem b_c11_comesTold_108_1 : bdec cX11_comesTold 108 [.aload_n 0] = true := by decide +kernel
theorem d_c11_comesTold_109 : decode cX11_comesTold 109 = .ok (.getfield 9, 3) := by decide +kernel
theorem b_c11_comesTold_112_2 : bdec cX11_comesTold 112 [.iconst 1, .iload_n 2] = true := by decide +kernel
theorem d_c11_comesTold_114 : decode cX11_comesTold 114 = .ok (.iastore, 1) := by decide +kernel
theorem b_c11_comesTold_115_1 : bdec cX11_comesTold 115 [.iconst 1] = true := by decide +kernel
theorem d_c11_comesTold_116 : decode cX11_comesTold 116 = .ok (.ireturn, 1) := by decide +kernel
theorem b_c11_comesTold_106_1 : bdec cX11_comesTold 106 [.iconst 0] = true := by decide +kernel
theorem d_c11_comesTold_107 : decode cX11_comesTold 107 = .ok (.ireturn, 1) := by decide +kernel
theorem b_c11_comesTold_44_2 : bdec cX11_comesTold 44 [.iload_n 2, .bipush 8] = true := by decide +kernel
theorem d_c11_comesTold_47 : decode cX11_comesTold 47 = .ok (.if_icmp .ge 21, 3) := by decide +kernel
theorem b_c11_comesTold_68_1 : bdec cX11_comesTold 68 [.iconst 0] = true := by decide +kernel
theorem d_c11_comesTold_69 : decode cX11_comesTold 69 = .ok (.ireturn, 1) := by decide +kernel
theorem b_c11_comesTold_50_3 : bdec cX11_comesTold 50 [.aload_n 0, .iload_n 2, .aload_n 0] = true := by decide +kernel
theorem d_c11_comesTold_53 : decode cX11_comesTold 53 = .ok (.getfield 40, 3) := by decide +kernel
theorem b_c11_comesTold_56_1 : bdec cX11_comesTold 56 [.iconst 1] = true := by decide +kernel
theorem d_c11_comesTold_57 : decode cX11_comesTold 57 = .ok (.iaload, 1) := by decide +kernel
theorem d_c11_comesTold_58 : decode cX11_comesTold 58 = .ok (.invokevirtual 117, 3) := by decide +kernel
theorem d_c11_comesTold_61 : decode cX11_comesTold 61 = .ok (.ifCond .eq 7, 3) := by decide +kernel
theorem b_c11_comesTold_64_1 : bdec cX11_comesTold 64 [.iconst 1] = true := by decide +kernel
theorem d_c11_comesTold_65 : decode cX11_comesTold 65 = .ok (.goto 4, 3) := by decide +kernel
theorem b_c11_comesTold_70_3 : bdec cX11_comesTold 70 [.aload_n 0, .iload_n 2, .aload_n 0] = true := by decide +kernel
theorem d_c11_comesTold_73 : decode cX11_comesTold 73 = .ok (.getfield 40, 3) := by decide +kernel
theorem b_c11_comesTold_76_1 : bdec cX11_comesTold 76 [.iconst 1] = true := by decide +kernel
theorem d_c11_comesTold_77 : decode cX11_comesTold 77 = .ok (.iaload, 1) := by decide +kernel
theorem d_c11_comesTold_78 : decode cX11_comesTold 78 = .ok (.invokevirtual 121, 3) := by decide +kernel
theorem d_c11_comesTold_81 : decode cX11_comesTold 81 = .ok (.ifCond .ne 5, 3) := by decide +kernel
theorem b_c11_comesTold_86_3 : bdec cX11_comesTold 86 [.aload_n 0, .iload_n 2, .aload_n 0] = true := by decide +kernel
theorem d_c11_comesTold_89 : decode cX11_comesTold 89 = .ok (.getfield 40, 3) := by decide +kernel
theorem b_c11_comesTold_92_1 : bdec cX11_comesTold 92 [.iconst 1] = true := by decide +kernel
theorem d_c11_comesTold_93 : decode cX11_comesTold 93 = .ok (.iaload, 1) := by decide +kernel
theorem d_c11_comesTold_94 : decode cX11_comesTold 94 = .ok (.invokevirtual 84, 3) := by decide +kernel
theorem b_c11_comesTold_97_1 : bdec cX11_comesTold 97 [.iconst 1] = true := by decide +kernel
theorem d_c11_comesTold_98 : decode cX11_comesTold 98 = .ok (.ireturn, 1) := by decide +kernel
theorem b_c11_comesTold_84_1 : bdec cX11_comesTold 84 [.iconst 0] = true := by decide +kernel
theorem d_c11_comesTold_85 : decode cX11_comesTold 85 = .ok (.ireturn, 1) := by decide +kernel
theorem b_c11_comesTold_117_1 : bdec cX11_comesTold 117 [.aload_n 0] = true := by decide +kernel
theorem d_c11_comesTold_118 : decode cX11_comesTold 118 = .ok (.getfield 9, 3) := by decide +kernel
theorem b_c11_comesTold_121_1 : bdec cX11_comesTold 121 [.iconst 0] = true := by decide +kernel
theorem d_c11_comesTold_122 : decode cX11_comesTold 122 = .ok (.iaload, 1) := by decide +kernel
theorem d_c11_comesTold_123 : decode cX11_comesTold 123 = .ok (.ifCond .ne 5, 3) := by decide +kernel
theorem b_c11_comesTold_128_2 : bdec cX11_comesTold 128 [.aload_n 0, .aload_n 0] = true := by decide +kernel
theorem d_c11_comesTold_130 : decode cX11_comesTold 130 = .ok (.getfield 9, 3) := by decide +kernel
theorem b_c11_comesTold_133_1 : bdec cX11_comesTold 133 [.iconst 0] = true := by decide +kernel
theorem d_c11_comesTold_134 : decode cX11_comesTold 134 = .ok (.iaload, 1) := by decide +kernel
theorem b_c11_comesTold_135_2 : bdec cX11_comesTold 135 [.iconst 1, .isub] = true := by decide +kernel
theorem d_c11_comesTold_137 : decode cX11_comesTold 137 = .ok (.invokevirtual 127, 3) := by decide +kernel
theorem b_c11_comesTold_140_1 : bdec cX11_comesTold 140 [.iconst 1] = true := by decide +kernel
theorem d_c11_comesTold_141 : decode cX11_comesTold 141 = .ok (.ireturn, 1) := by decide +kernel
theorem b_c11_comesTold_126_1 : bdec cX11_comesTold 126 [.iconst 0] = true := by decide +kernel
theorem d_c11_comesTold_127 : decode cX11_comesTold 127 = .ok (.ireturn, 1) := by decide +kernel
def f11_comesTold (s0 : HM) (a0 : Nat) (p1 : Int32) : Option (Int32 × HM) := obd (hfld s0 [11] 15 a0) (fun v1 => orf v1 (fun b2 => obd (hald s0 b2 (Int32.ofInt 0)) (fun v3 => if p1 = 108 then (obd (f11_isLaw v3) (fun v6 => if v6 = 0 then (some (Int32.ofInt 0, s0)) else (obd (hfld s0 [11] 0 a0) (fun v8 => orf v8 (fun b9 => obd (hast s0 b9 (Int32.ofInt 1) v3) (fun s10 => some (Int32.ofInt 1, s10))))))) else (if p1 = 112 then (if ((Int8.ofInt 8).toInt32) ≤ v3 then (some (Int32.ofInt 0, s0)) else (obd (hfld s0 [11] 15 a0) (fun v13 => orf v13 (fun b14 => obd (hald s0 b14 (Int32.ofInt 1)) (fun v15 => ocl s0 a0 11 (obd (f11_adds s0 a0 v3 v15) (fun e16 => match e16 with | (v18, s17) => if v18 = 0 then (some (Int32.ofInt 0, s17)) else (some (Int32.ofInt 1, s17))))))))) else (if p1 = 119 then (obd (hfld s0 [11] 15 a0) (fun v21 => orf v21 (fun b22 => obd (hald s0 b22 (Int32.ofInt 1)) (fun v23 => ocl s0 a0 11 (obd (f11_areTwo s0 a0 v3 v23) (fun v25 => if v25 = 0 then (some (Int32.ofInt 0, s0)) else (obd (hfld s0 [11] 15 a0) (fun v27 => orf v27 (fun b28 => obd (hald s0 b28 (Int32.ofInt 1)) (fun v29 => ocl s0 a0 11 (obd (f11_beats s0 a0 v3 v29) (fun s31 => some (Int32.ofInt 1, s31))))))))))))) else (obd (hfld s0 [11] 0 a0) (fun v32 => orf v32 (fun b33 => obd (hald s0 b33 (Int32.ofInt 0)) (fun v34 => if v34 = 0 then (some (Int32.ofInt 0, s0)) else (obd (hfld s0 [11] 0 a0) (fun v36 => orf v36 (fun b37 => obd (hald s0 b37 (Int32.ofInt 0)) (fun v38 => ocl s0 a0 11 (obd (f11_leaves s0 a0 (v38 - (Int32.ofInt 1))) (fun s40 => some (Int32.ofInt 1, s40))))))))))))))))
set_option maxRecDepth 100000 in
set_option maxHeartbeats 4000000 in
theorem c11_comesTold (l : Launch) (κ : KP) (A : Nat → Prop) (s0 : HM) (a0 : Nat) (p1 : Int32) {res : Int32 × HM} (hF : f11_comesTold s0 a0 p1 = some res) : Met l yX11_comesTold (Cond.code yX11_comesTold cX11_comesTold 3 (some .boolean) :: WT) (rmL 3 0 0) (PP κ A [.ref a0, .int p1] (HS κ A s0)) (QQ (some (.int res.1)) (HS κ A res.2) A) 0 0 A := by
  refine met_of (own := RX11) (by decide) rfl (Nat.le_of_ble_eq_true rfl) ?_
  intro Γ E hQ hL hR hA hent hini
  have hAA : ∀ q, A q → jA Γ q := fun q h => by rw [hA]; exact h
  have hroom : ∀ (d mL : Nat) {mc ms : Nat}, d < 3 → mL ≤ 21 → (rmL d mc ms).frames + 1 ≤ (jR Γ).frames ∧ 8 + (mL + 11) + (rmL d mc ms).locals ≤ (jR Γ).locals := fun d mL mc ms h1 h2 => by rw [hR]; exact rmL_le h1 h2
  show J Γ 3 (HS κ A s0) 0 0 0 [(0, .ref a0), (1, .int p1)] []
  unfold f11_comesTold at hF
  refine j_blk (pc' := 1) (lv' := [(0, .ref a0), (1, .int p1)]) (st' := [.ref a0]) E b_c11_comesTold_0_1 rfl ?_
  replace hF := obd_at hF
  obtain ⟨v1, ev1, hF⟩ := hF
  refine j_getf E fg_RX11_40 d_c11_comesTold_1 ev1 ?_
  refine j_blk (pc' := 5) (lv' := [(0, .ref a0), (1, .int p1)]) (st' := [.int (Int32.ofInt 0), v1]) E b_c11_comesTold_4_1 rfl ?_
  replace hF := orf_at hF
  obtain ⟨b2, rfl, hF⟩ := hF
  replace hF := obd_at hF
  obtain ⟨v3, ev3, hF⟩ := hF
  refine j_iald E d_c11_comesTold_5 ev3 ?_
  refine j_blk (pc' := 8) (lv' := [(2, .int v3), (0, .ref a0), (1, .int p1)]) (st' := [.int p1]) E b_c11_comesTold_6_2 rfl ?_
  rcases Decidable.em (p1 = 108) with h4 | h4
  · replace hF := g_t hF h4
    refine j_lkp (tgt := 99) (off := 91) E d_c11_comesTold_8 (by decide) (by rw [h4]; decide) (by decide) ?_
    refine j_blk (pc' := 100) (lv' := [(2, .int v3), (0, .ref a0), (1, .int p1)]) (st' := [.int v3]) E b_c11_comesTold_99_1 rfl ?_
    replace hF := obd_at hF
    obtain ⟨v6, he5, hF⟩ := hF
    refine j_calls [.int v3] [] E w_RX11_124 (hroom 1 1 (by decide) (by decide)) hAA (c11_isLaw _ κ A (HS κ A s0) _  he5) (fun _ h => h) (fun _ _ _ h _ _ => h) rfl rfl (Nat.le_of_ble_eq_true rfl) d_c11_comesTold_100 ⟨Nat.zero_le _, Nat.zero_le _⟩ ?_
    refine j_if_ne (tgt := 108) E d_c11_comesTold_103 (by decide) (fun h7 => ?_) (fun h7 => ?_)
    · replace hF := g_f hF h7
      refine j_blk (pc' := 109) (lv' := [(2, .int v3), (0, .ref a0), (1, .int p1)]) (st' := [.ref a0]) E b_c11_comesTold_108_1 rfl ?_
      replace hF := obd_at hF
      obtain ⟨v8, ev8, hF⟩ := hF
      refine j_getf E fg_RX11_9 d_c11_comesTold_109 ev8 ?_
      refine j_blk (pc' := 114) (lv' := [(2, .int v3), (0, .ref a0), (1, .int p1)]) (st' := [.int v3, .int (Int32.ofInt 1), v8]) E b_c11_comesTold_112_2 rfl ?_
      replace hF := orf_at hF
      obtain ⟨b9, rfl, hF⟩ := hF
      replace hF := obd_at hF
      obtain ⟨s10, es10, hF⟩ := hF
      refine j_iast E d_c11_comesTold_114 es10 hAA ?_
      refine j_blk (pc' := 116) (lv' := [(2, .int v3), (0, .ref a0), (1, .int p1)]) (st' := [.int (Int32.ofInt 1)]) E b_c11_comesTold_115_1 rfl ?_
      have e : res = (Int32.ofInt 1, s10) := g_inj hF
      subst e
      exact j_zret E hQ nb_1 d_c11_comesTold_116 (fun _ h => h)
    · replace hF := g_t hF h7
      refine j_blk (pc' := 107) (lv' := [(2, .int v3), (0, .ref a0), (1, .int p1)]) (st' := [.int (Int32.ofInt 0)]) E b_c11_comesTold_106_1 rfl ?_
      have e : res = (Int32.ofInt 0, s0) := g_inj hF
      subst e
      exact j_zret E hQ nb_0 d_c11_comesTold_107 (fun _ h => h)
  · replace hF := g_f hF h4
    rcases Decidable.em (p1 = 112) with h11 | h11
    · replace hF := g_t hF h11
      refine j_lkp (tgt := 44) (off := 36) E d_c11_comesTold_8 (by decide) (by rw [h11]; decide) (by decide) ?_
      refine j_blk (pc' := 47) (lv' := [(2, .int v3), (0, .ref a0), (1, .int p1)]) (st' := [.int ((Int8.ofInt 8).toInt32), .int v3]) E b_c11_comesTold_44_2 rfl ?_
      refine j_icmp_ge (tgt := 68) E d_c11_comesTold_47 (by decide) (fun h12 => ?_) (fun h12 => ?_)
      · replace hF := g_t hF h12
        refine j_blk (pc' := 69) (lv' := [(2, .int v3), (0, .ref a0), (1, .int p1)]) (st' := [.int (Int32.ofInt 0)]) E b_c11_comesTold_68_1 rfl ?_
        have e : res = (Int32.ofInt 0, s0) := g_inj hF
        subst e
        exact j_zret E hQ nb_0 d_c11_comesTold_69 (fun _ h => h)
      · replace hF := g_f hF h12
        refine j_blk (pc' := 53) (lv' := [(2, .int v3), (0, .ref a0), (1, .int p1)]) (st' := [.ref a0, .int v3, .ref a0]) E b_c11_comesTold_50_3 rfl ?_
        replace hF := obd_at hF
        obtain ⟨v13, ev13, hF⟩ := hF
        refine j_getf E fg_RX11_40 d_c11_comesTold_53 ev13 ?_
        refine j_blk (pc' := 57) (lv' := [(2, .int v3), (0, .ref a0), (1, .int p1)]) (st' := [.int (Int32.ofInt 1), v13, .int v3, .ref a0]) E b_c11_comesTold_56_1 rfl ?_
        replace hF := orf_at hF
        obtain ⟨b14, rfl, hF⟩ := hF
        replace hF := obd_at hF
        obtain ⟨v15, ev15, hF⟩ := hF
        refine j_iald E d_c11_comesTold_57 ev15 ?_
        replace hF := ocl_at hF
        obtain ⟨hc, hF⟩ := hF
        replace hF := obd_at hF
        obtain ⟨⟨v18, s17⟩, he16, hF⟩ := hF
        refine j_callv [.int v3, .int v15] [] E w_RX11_117 (hroom 2 3 (by decide) (by decide)) hAA (c11_adds _ κ A _ _ _ _  he16) (fun _ h => h) (fun _ _ _ h _ _ => h) (fun _ h => j_recv E h hc rfl) rfl rfl (Nat.le_of_ble_eq_true rfl) d_c11_comesTold_58 ⟨Nat.zero_le _, Nat.zero_le _⟩ ?_
        refine j_if_eq (tgt := 68) E d_c11_comesTold_61 (by decide) (fun h19 => ?_) (fun h19 => ?_)
        · replace hF := g_t hF h19
          refine j_blk (pc' := 69) (lv' := [(2, .int v3), (0, .ref a0), (1, .int p1)]) (st' := [.int (Int32.ofInt 0)]) E b_c11_comesTold_68_1 rfl ?_
          have e : res = (Int32.ofInt 0, s17) := g_inj hF
          subst e
          exact j_zret E hQ nb_0 d_c11_comesTold_69 (fun _ h => h)
        · replace hF := g_f hF h19
          refine j_blk (pc' := 65) (lv' := [(2, .int v3), (0, .ref a0), (1, .int p1)]) (st' := [.int (Int32.ofInt 1)]) E b_c11_comesTold_64_1 rfl ?_
          refine j_goto (tgt := 69) E d_c11_comesTold_65 (by decide) ?_
          have e : res = (Int32.ofInt 1, s17) := g_inj hF
          subst e
          exact j_zret E hQ nb_1 d_c11_comesTold_69 (fun _ h => h)
    · replace hF := g_f hF h11
      rcases Decidable.em (p1 = 119) with h20 | h20
      · replace hF := g_t hF h20
        refine j_lkp (tgt := 70) (off := 62) E d_c11_comesTold_8 (by decide) (by rw [h20]; decide) (by decide) ?_
        refine j_blk (pc' := 73) (lv' := [(2, .int v3), (0, .ref a0), (1, .int p1)]) (st' := [.ref a0, .int v3, .ref a0]) E b_c11_comesTold_70_3 rfl ?_
        replace hF := obd_at hF
        obtain ⟨v21, ev21, hF⟩ := hF
        refine j_getf E fg_RX11_40 d_c11_comesTold_73 ev21 ?_
        refine j_blk (pc' := 77) (lv' := [(2, .int v3), (0, .ref a0), (1, .int p1)]) (st' := [.int (Int32.ofInt 1), v21, .int v3, .ref a0]) E b_c11_comesTold_76_1 rfl ?_
        replace hF := orf_at hF
        obtain ⟨b22, rfl, hF⟩ := hF
        replace hF := obd_at hF
        obtain ⟨v23, ev23, hF⟩ := hF
        refine j_iald E d_c11_comesTold_77 ev23 ?_
        replace hF := ocl_at hF
        obtain ⟨hc, hF⟩ := hF
        replace hF := obd_at hF
        obtain ⟨v25, he24, hF⟩ := hF
        refine j_callv [.int v3, .int v23] [] E w_RX11_121 (hroom 2 3 (by decide) (by decide)) hAA (c11_areTwo _ κ A _ _ _ _  he24) (fun _ h => h) (fun _ _ _ h _ _ => h) (fun _ h => j_recv E h hc rfl) rfl rfl (Nat.le_of_ble_eq_true rfl) d_c11_comesTold_78 ⟨Nat.zero_le _, Nat.zero_le _⟩ ?_
        refine j_if_ne (tgt := 86) E d_c11_comesTold_81 (by decide) (fun h26 => ?_) (fun h26 => ?_)
        · replace hF := g_f hF h26
          refine j_blk (pc' := 89) (lv' := [(2, .int v3), (0, .ref a0), (1, .int p1)]) (st' := [.ref a0, .int v3, .ref a0]) E b_c11_comesTold_86_3 rfl ?_
          replace hF := obd_at hF
          obtain ⟨v27, ev27, hF⟩ := hF
          refine j_getf E fg_RX11_40 d_c11_comesTold_89 ev27 ?_
          refine j_blk (pc' := 93) (lv' := [(2, .int v3), (0, .ref a0), (1, .int p1)]) (st' := [.int (Int32.ofInt 1), v27, .int v3, .ref a0]) E b_c11_comesTold_92_1 rfl ?_
          replace hF := orf_at hF
          obtain ⟨b28, rfl, hF⟩ := hF
          replace hF := obd_at hF
          obtain ⟨v29, ev29, hF⟩ := hF
          refine j_iald E d_c11_comesTold_93 ev29 ?_
          replace hF := ocl_at hF
          obtain ⟨hc, hF⟩ := hF
          replace hF := obd_at hF
          obtain ⟨s31, he30, hF⟩ := hF
          refine j_callv [.int v3, .int v29] [] E w_RX11_84 (hroom 1 3 (by decide) (by decide)) hAA (c11_beats _ κ A _ _ _ _  he30) (fun _ h => h) (fun _ _ _ h _ _ => h) (fun _ h => j_recv E h hc rfl) rfl rfl (Nat.le_of_ble_eq_true rfl) d_c11_comesTold_94 ⟨Nat.zero_le _, Nat.zero_le _⟩ ?_
          refine j_blk (pc' := 98) (lv' := [(2, .int v3), (0, .ref a0), (1, .int p1)]) (st' := [.int (Int32.ofInt 1)]) E b_c11_comesTold_97_1 rfl ?_
          have e : res = (Int32.ofInt 1, s31) := g_inj hF
          subst e
          exact j_zret E hQ nb_1 d_c11_comesTold_98 (fun _ h => h)
        · replace hF := g_t hF h26
          refine j_blk (pc' := 85) (lv' := [(2, .int v3), (0, .ref a0), (1, .int p1)]) (st' := [.int (Int32.ofInt 0)]) E b_c11_comesTold_84_1 rfl ?_
          have e : res = (Int32.ofInt 0, s0) := g_inj hF
          subst e
          exact j_zret E hQ nb_0 d_c11_comesTold_85 (fun _ h => h)
      · replace hF := g_f hF h20
        refine j_lkp (tgt := 117) (off := 109) E d_c11_comesTold_8 (by decide) ((lv_osw h4 (by decide)).trans ((lv_osw h11 (by decide)).trans ((lv_osw h20 (by decide)).trans rfl))) (by decide) ?_
        refine j_blk (pc' := 118) (lv' := [(2, .int v3), (0, .ref a0), (1, .int p1)]) (st' := [.ref a0]) E b_c11_comesTold_117_1 rfl ?_
        replace hF := obd_at hF
        obtain ⟨v32, ev32, hF⟩ := hF
        refine j_getf E fg_RX11_9 d_c11_comesTold_118 ev32 ?_
        refine j_blk (pc' := 122) (lv' := [(2, .int v3), (0, .ref a0), (1, .int p1)]) (st' := [.int (Int32.ofInt 0), v32]) E b_c11_comesTold_121_1 rfl ?_
        replace hF := orf_at hF
        obtain ⟨b33, rfl, hF⟩ := hF
        replace hF := obd_at hF
        obtain ⟨v34, ev34, hF⟩ := hF
        refine j_iald E d_c11_comesTold_122 ev34 ?_
        refine j_if_ne (tgt := 128) E d_c11_comesTold_123 (by decide) (fun h35 => ?_) (fun h35 => ?_)
        · replace hF := g_f hF h35
          refine j_blk (pc' := 130) (lv' := [(2, .int v3), (0, .ref a0), (1, .int p1)]) (st' := [.ref a0, .ref a0]) E b_c11_comesTold_128_2 rfl ?_
          replace hF := obd_at hF
          obtain ⟨v36, ev36, hF⟩ := hF
          refine j_getf E fg_RX11_9 d_c11_comesTold_130 ev36 ?_
          refine j_blk (pc' := 134) (lv' := [(2, .int v3), (0, .ref a0), (1, .int p1)]) (st' := [.int (Int32.ofInt 0), v36, .ref a0]) E b_c11_comesTold_133_1 rfl ?_
          replace hF := orf_at hF
          obtain ⟨b37, rfl, hF⟩ := hF
          replace hF := obd_at hF
          obtain ⟨v38, ev38, hF⟩ := hF
          refine j_iald E d_c11_comesTold_134 ev38 ?_
          refine j_blk (pc' := 137) (lv' := [(2, .int v3), (0, .ref a0), (1, .int p1)]) (st' := [.int (v38 - (Int32.ofInt 1)), .ref a0]) E b_c11_comesTold_135_2 rfl ?_
          replace hF := ocl_at hF
          obtain ⟨hc, hF⟩ := hF
          replace hF := obd_at hF
          obtain ⟨s40, he39, hF⟩ := hF
          refine j_callv [.int (v38 - (Int32.ofInt 1))] [] E w_RX11_127 (hroom 1 4 (by decide) (by decide)) hAA (c11_leaves _ κ A _ _ _  he39) (fun _ h => h) (fun _ _ _ h _ _ => h) (fun _ h => j_recv E h hc rfl) rfl rfl (Nat.le_of_ble_eq_true rfl) d_c11_comesTold_137 ⟨Nat.zero_le _, Nat.zero_le _⟩ ?_
          refine j_blk (pc' := 141) (lv' := [(2, .int v3), (0, .ref a0), (1, .int p1)]) (st' := [.int (Int32.ofInt 1)]) E b_c11_comesTold_140_1 rfl ?_
          have e : res = (Int32.ofInt 1, s40) := g_inj hF
          subst e
          exact j_zret E hQ nb_1 d_c11_comesTold_141 (fun _ h => h)
        · replace hF := g_t hF h35
          refine j_blk (pc' := 127) (lv' := [(2, .int v3), (0, .ref a0), (1, .int p1)]) (st' := [.int (Int32.ofInt 0)]) E b_c11_comesTold_126_1 rfl ?_
          have e : res = (Int32.ofInt 0, s0) := g_inj hF
          subst e
          exact j_zret E hQ nb_0 d_c11_comesTold_127 (fun _ h => h)
theorem b_c11_comes_0_2 : bdec cX11_comes 0 [.aload_n 0, .iload_n 1] = true := by decide +kernel
theorem d_c11_comes_2 : decode cX11_comes 2 = .ok (.invokevirtual 150, 3) := by decide +kernel
theorem b_c11_comes_5_2 : bdec cX11_comes 5 [.istore_n 2, .iload_n 2] = true := by decide +kernel
theorem d_c11_comes_7 : decode cX11_comes 7 = .ok (.ifCond .eq 5, 3) := by decide +kernel
theorem b_c11_comes_12_2 : bdec cX11_comes 12 [.aload_n 0, .aload_n 0] = true := by decide +kernel
theorem d_c11_comes_14 : decode cX11_comes 14 = .ok (.getfield 34, 3) := by decide +kernel
theorem b_c11_comes_17_1 : bdec cX11_comes 17 [.iload_n 1] = true := by decide +kernel
theorem d_c11_comes_18 : decode cX11_comes 18 = .ok (.iaload, 1) := by decide +kernel
theorem b_c11_comes_19_1 : bdec cX11_comes 19 [.aload_n 0] = true := by decide +kernel
theorem d_c11_comes_20 : decode cX11_comes 20 = .ok (.getfield 37, 3) := by decide +kernel
theorem b_c11_comes_23_1 : bdec cX11_comes 23 [.iload_n 1] = true := by decide +kernel
theorem d_c11_comes_24 : decode cX11_comes 24 = .ok (.iaload, 1) := by decide +kernel
theorem d_c11_comes_25 : decode cX11_comes 25 = .ok (.invokevirtual 117, 3) := by decide +kernel
theorem d_c11_comes_28 : decode cX11_comes 28 = .ok (.ifCond .eq 14, 3) := by decide +kernel
theorem b_c11_comes_42_1 : bdec cX11_comes 42 [.bipush (-2)] = true := by decide +kernel
theorem d_c11_comes_44 : decode cX11_comes 44 = .ok (.ireturn, 1) := by decide +kernel
theorem b_c11_comes_31_1 : bdec cX11_comes 31 [.aload_n 0] = true := by decide +kernel
theorem d_c11_comes_32 : decode cX11_comes 32 = .ok (.getfield 9, 3) := by decide +kernel
theorem b_c11_comes_35_1 : bdec cX11_comes 35 [.iconst 0] = true := by decide +kernel
theorem d_c11_comes_36 : decode cX11_comes 36 = .ok (.iaload, 1) := by decide +kernel
theorem b_c11_comes_37_2 : bdec cX11_comes 37 [.iconst 1, .isub] = true := by decide +kernel
theorem d_c11_comes_39 : decode cX11_comes 39 = .ok (.goto 5, 3) := by decide +kernel
theorem b_c11_comes_10_1 : bdec cX11_comes 10 [.iload_n 2] = true := by decide +kernel
theorem d_c11_comes_11 : decode cX11_comes 11 = .ok (.ireturn, 1) := by decide +kernel
def f11_comes (s0 : HM) (a0 : Nat) (p1 : Int32) : Option (Int32 × HM) := ocl s0 a0 11 (obd (f11_wrongKept s0 a0 p1) (fun v2 => if v2 = 0 then (obd (hfld s0 [11] 8 a0) (fun v4 => orf v4 (fun b5 => obd (hald s0 b5 p1) (fun v6 => obd (hfld s0 [11] 9 a0) (fun v7 => orf v7 (fun b8 => obd (hald s0 b8 p1) (fun v9 => ocl s0 a0 11 (obd (f11_adds s0 a0 v6 v9) (fun e10 => match e10 with | (v12, s11) => if v12 = 0 then (some ((Int8.ofInt (-2)).toInt32, s11)) else (obd (hfld s11 [11] 0 a0) (fun v14 => orf v14 (fun b15 => obd (hald s11 b15 (Int32.ofInt 0)) (fun v16 => some (v16 - (Int32.ofInt 1), s11)))))))))))))) else (some (v2, s0))))
set_option maxRecDepth 100000 in
set_option maxHeartbeats 4000000 in
theorem c11_comes (l : Launch) (κ : KP) (A : Nat → Prop) (s0 : HM) (a0 : Nat) (p1 : Int32) {res : Int32 × HM} (hF : f11_comes s0 a0 p1 = some res) : Met l yX11_comes (Cond.code yX11_comes cX11_comes 3 (some .int) :: WT) (rmL 3 0 0) (PP κ A [.ref a0, .int p1] (HS κ A s0)) (QQ (some (.int res.1)) (HS κ A res.2) A) 0 0 A := by
  refine met_of (own := RX11) (by decide) rfl (Nat.le_of_ble_eq_true rfl) ?_
  intro Γ E hQ hL hR hA hent hini
  have hAA : ∀ q, A q → jA Γ q := fun q h => by rw [hA]; exact h
  have hroom : ∀ (d mL : Nat) {mc ms : Nat}, d < 3 → mL ≤ 21 → (rmL d mc ms).frames + 1 ≤ (jR Γ).frames ∧ 8 + (mL + 11) + (rmL d mc ms).locals ≤ (jR Γ).locals := fun d mL mc ms h1 h2 => by rw [hR]; exact rmL_le h1 h2
  show J Γ 3 (HS κ A s0) 0 0 0 [(0, .ref a0), (1, .int p1)] []
  unfold f11_comes at hF
  refine j_blk (pc' := 2) (lv' := [(0, .ref a0), (1, .int p1)]) (st' := [.int p1, .ref a0]) E b_c11_comes_0_2 rfl ?_
  replace hF := ocl_at hF
  obtain ⟨hc, hF⟩ := hF
  replace hF := obd_at hF
  obtain ⟨v2, he1, hF⟩ := hF
  refine j_callv [.int p1] [] E w_RX11_150 (hroom 2 2 (by decide) (by decide)) hAA (c11_wrongKept _ κ A _ _ _  he1) (fun _ h => h) (fun _ _ _ h _ _ => h) (fun _ h => j_recv E h hc rfl) rfl rfl (Nat.le_of_ble_eq_true rfl) d_c11_comes_2 ⟨Nat.zero_le _, Nat.zero_le _⟩ ?_
  refine j_blk (pc' := 7) (lv' := [(2, .int v2), (0, .ref a0), (1, .int p1)]) (st' := [.int v2]) E b_c11_comes_5_2 rfl ?_
  refine j_if_eq (tgt := 12) E d_c11_comes_7 (by decide) (fun h3 => ?_) (fun h3 => ?_)
  · replace hF := g_t hF h3
    refine j_blk (pc' := 14) (lv' := [(2, .int v2), (0, .ref a0), (1, .int p1)]) (st' := [.ref a0, .ref a0]) E b_c11_comes_12_2 rfl ?_
    replace hF := obd_at hF
    obtain ⟨v4, ev4, hF⟩ := hF
    refine j_getf E fg_RX11_34 d_c11_comes_14 ev4 ?_
    refine j_blk (pc' := 18) (lv' := [(2, .int v2), (0, .ref a0), (1, .int p1)]) (st' := [.int p1, v4, .ref a0]) E b_c11_comes_17_1 rfl ?_
    replace hF := orf_at hF
    obtain ⟨b5, rfl, hF⟩ := hF
    replace hF := obd_at hF
    obtain ⟨v6, ev6, hF⟩ := hF
    refine j_iald E d_c11_comes_18 ev6 ?_
    refine j_blk (pc' := 20) (lv' := [(2, .int v2), (0, .ref a0), (1, .int p1)]) (st' := [.ref a0, .int v6, .ref a0]) E b_c11_comes_19_1 rfl ?_
    replace hF := obd_at hF
    obtain ⟨v7, ev7, hF⟩ := hF
    refine j_getf E fg_RX11_37 d_c11_comes_20 ev7 ?_
    refine j_blk (pc' := 24) (lv' := [(2, .int v2), (0, .ref a0), (1, .int p1)]) (st' := [.int p1, v7, .int v6, .ref a0]) E b_c11_comes_23_1 rfl ?_
    replace hF := orf_at hF
    obtain ⟨b8, rfl, hF⟩ := hF
    replace hF := obd_at hF
    obtain ⟨v9, ev9, hF⟩ := hF
    refine j_iald E d_c11_comes_24 ev9 ?_
    replace hF := ocl_at hF
    obtain ⟨hc, hF⟩ := hF
    replace hF := obd_at hF
    obtain ⟨⟨v12, s11⟩, he10, hF⟩ := hF
    refine j_callv [.int v6, .int v9] [] E w_RX11_117 (hroom 2 3 (by decide) (by decide)) hAA (c11_adds _ κ A _ _ _ _  he10) (fun _ h => h) (fun _ _ _ h _ _ => h) (fun _ h => j_recv E h hc rfl) rfl rfl (Nat.le_of_ble_eq_true rfl) d_c11_comes_25 ⟨Nat.zero_le _, Nat.zero_le _⟩ ?_
    refine j_if_eq (tgt := 42) E d_c11_comes_28 (by decide) (fun h13 => ?_) (fun h13 => ?_)
    · replace hF := g_t hF h13
      refine j_blk (pc' := 44) (lv' := [(2, .int v2), (0, .ref a0), (1, .int p1)]) (st' := [.int ((Int8.ofInt (-2)).toInt32)]) E b_c11_comes_42_1 rfl ?_
      have e : res = ((Int8.ofInt (-2)).toInt32, s11) := g_inj hF
      subst e
      exact j_iret E hQ d_c11_comes_44 (fun _ h => h)
    · replace hF := g_f hF h13
      refine j_blk (pc' := 32) (lv' := [(2, .int v2), (0, .ref a0), (1, .int p1)]) (st' := [.ref a0]) E b_c11_comes_31_1 rfl ?_
      replace hF := obd_at hF
      obtain ⟨v14, ev14, hF⟩ := hF
      refine j_getf E fg_RX11_9 d_c11_comes_32 ev14 ?_
      refine j_blk (pc' := 36) (lv' := [(2, .int v2), (0, .ref a0), (1, .int p1)]) (st' := [.int (Int32.ofInt 0), v14]) E b_c11_comes_35_1 rfl ?_
      replace hF := orf_at hF
      obtain ⟨b15, rfl, hF⟩ := hF
      replace hF := obd_at hF
      obtain ⟨v16, ev16, hF⟩ := hF
      refine j_iald E d_c11_comes_36 ev16 ?_
      refine j_blk (pc' := 39) (lv' := [(2, .int v2), (0, .ref a0), (1, .int p1)]) (st' := [.int (v16 - (Int32.ofInt 1))]) E b_c11_comes_37_2 rfl ?_
      refine j_goto (tgt := 44) E d_c11_comes_39 (by decide) ?_
      have e : res = (v16 - (Int32.ofInt 1), s11) := g_inj hF
      subst e
      exact j_iret E hQ d_c11_comes_44 (fun _ h => h)
  · replace hF := g_f hF h3
    refine j_blk (pc' := 11) (lv' := [(2, .int v2), (0, .ref a0), (1, .int p1)]) (st' := [.int v2]) E b_c11_comes_10_1 rfl ?_
    have e : res = (v2, s0) := g_inj hF
    subst e
    exact j_iret E hQ d_c11_comes_11 (fun _ h => h)
theorem b_c11_beat_0_3 : bdec cX11_beat 0 [.aload_n 0, .iload_n 1, .iload_n 2] = true := by decide +kernel
theorem d_c11_beat_3 : decode cX11_beat 3 = .ok (.invokevirtual 121, 3) := by decide +kernel
theorem d_c11_beat_6 : decode cX11_beat 6 = .ok (.ifCond .ne 5, 3) := by decide +kernel
theorem b_c11_beat_11_2 : bdec cX11_beat 11 [.aload_n 0, .iload_n 1] = true := by decide +kernel
theorem d_c11_beat_13 : decode cX11_beat 13 = .ok (.invokevirtual 63, 3) := by decide +kernel
theorem b_c11_beat_16_8 : bdec cX11_beat 16 [.iload_n 2, .ishr, .iconst 1, .iand, .istore_n 3, .aload_n 0, .iload_n 1, .iload_n 2] = true := by decide +kernel
theorem d_c11_beat_24 : decode cX11_beat 24 = .ok (.invokevirtual 84, 3) := by decide +kernel
theorem b_c11_beat_27_3 : bdec cX11_beat 27 [.iconst 1, .iload_n 3, .isub] = true := by decide +kernel
theorem d_c11_beat_30 : decode cX11_beat 30 = .ok (.ireturn, 1) := by decide +kernel
theorem b_c11_beat_9_1 : bdec cX11_beat 9 [.iconst (-1)] = true := by decide +kernel
theorem d_c11_beat_10 : decode cX11_beat 10 = .ok (.ireturn, 1) := by decide +kernel
def f11_beat (s0 : HM) (a0 : Nat) (p1 : Int32) (p2 : Int32) : Option (Int32 × HM) := ocl s0 a0 11 (obd (f11_areTwo s0 a0 p1 p2) (fun v2 => if v2 = 0 then (some (Int32.ofInt (-1), s0)) else (ocl s0 a0 11 (obd (f11_beaten s0 a0 p1) (fun v5 => ocl s0 a0 11 (obd (f11_beats s0 a0 p1 p2) (fun s7 => some ((Int32.ofInt 1) - ((v5 >>> (p2 &&& 31)) &&& (Int32.ofInt 1)), s7))))))))
set_option maxRecDepth 100000 in
set_option maxHeartbeats 4000000 in
theorem c11_beat (l : Launch) (κ : KP) (A : Nat → Prop) (s0 : HM) (a0 : Nat) (p1 : Int32) (p2 : Int32) {res : Int32 × HM} (hF : f11_beat s0 a0 p1 p2 = some res) : Met l yX11_beat (Cond.code yX11_beat cX11_beat 4 (some .int) :: WT) (rmL 3 0 0) (PP κ A [.ref a0, .int p1, .int p2] (HS κ A s0)) (QQ (some (.int res.1)) (HS κ A res.2) A) 0 0 A := by
  refine met_of (own := RX11) (by decide) rfl (Nat.le_of_ble_eq_true rfl) ?_
  intro Γ E hQ hL hR hA hent hini
  have hAA : ∀ q, A q → jA Γ q := fun q h => by rw [hA]; exact h
  have hroom : ∀ (d mL : Nat) {mc ms : Nat}, d < 3 → mL ≤ 21 → (rmL d mc ms).frames + 1 ≤ (jR Γ).frames ∧ 8 + (mL + 11) + (rmL d mc ms).locals ≤ (jR Γ).locals := fun d mL mc ms h1 h2 => by rw [hR]; exact rmL_le h1 h2
  show J Γ 4 (HS κ A s0) 0 0 0 [(0, .ref a0), (1, .int p1), (2, .int p2)] []
  unfold f11_beat at hF
  refine j_blk (pc' := 3) (lv' := [(0, .ref a0), (1, .int p1), (2, .int p2)]) (st' := [.int p2, .int p1, .ref a0]) E b_c11_beat_0_3 rfl ?_
  replace hF := ocl_at hF
  obtain ⟨hc, hF⟩ := hF
  replace hF := obd_at hF
  obtain ⟨v2, he1, hF⟩ := hF
  refine j_callv [.int p1, .int p2] [] E w_RX11_121 (hroom 2 3 (by decide) (by decide)) hAA (c11_areTwo _ κ A _ _ _ _  he1) (fun _ h => h) (fun _ _ _ h _ _ => h) (fun _ h => j_recv E h hc rfl) rfl rfl (Nat.le_of_ble_eq_true rfl) d_c11_beat_3 ⟨Nat.zero_le _, Nat.zero_le _⟩ ?_
  refine j_if_ne (tgt := 11) E d_c11_beat_6 (by decide) (fun h3 => ?_) (fun h3 => ?_)
  · replace hF := g_f hF h3
    refine j_blk (pc' := 13) (lv' := [(0, .ref a0), (1, .int p1), (2, .int p2)]) (st' := [.int p1, .ref a0]) E b_c11_beat_11_2 rfl ?_
    replace hF := ocl_at hF
    obtain ⟨hc, hF⟩ := hF
    replace hF := obd_at hF
    obtain ⟨v5, he4, hF⟩ := hF
    refine j_callv [.int p1] [] E w_RX11_63 (hroom 0 2 (by decide) (by decide)) hAA (c11_beaten _ κ A _ _ _  he4) (fun _ h => h) (fun _ _ _ h _ _ => h) (fun _ h => j_recv E h hc rfl) rfl rfl (Nat.le_of_ble_eq_true rfl) d_c11_beat_13 ⟨Nat.zero_le _, Nat.zero_le _⟩ ?_
    refine j_blk (pc' := 24) (lv' := [(3, .int ((v5 >>> (p2 &&& 31)) &&& (Int32.ofInt 1))), (0, .ref a0), (1, .int p1), (2, .int p2)]) (st' := [.int p2, .int p1, .ref a0]) E b_c11_beat_16_8 rfl ?_
    replace hF := ocl_at hF
    obtain ⟨hc, hF⟩ := hF
    replace hF := obd_at hF
    obtain ⟨s7, he6, hF⟩ := hF
    refine j_callv [.int p1, .int p2] [] E w_RX11_84 (hroom 1 3 (by decide) (by decide)) hAA (c11_beats _ κ A _ _ _ _  he6) (fun _ h => h) (fun _ _ _ h _ _ => h) (fun _ h => j_recv E h hc rfl) rfl rfl (Nat.le_of_ble_eq_true rfl) d_c11_beat_24 ⟨Nat.zero_le _, Nat.zero_le _⟩ ?_
    refine j_blk (pc' := 30) (lv' := [(3, .int ((v5 >>> (p2 &&& 31)) &&& (Int32.ofInt 1))), (0, .ref a0), (1, .int p1), (2, .int p2)]) (st' := [.int ((Int32.ofInt 1) - ((v5 >>> (p2 &&& 31)) &&& (Int32.ofInt 1)))]) E b_c11_beat_27_3 rfl ?_
    have e : res = ((Int32.ofInt 1) - ((v5 >>> (p2 &&& 31)) &&& (Int32.ofInt 1)), s7) := g_inj hF
    subst e
    exact j_iret E hQ d_c11_beat_30 (fun _ h => h)
  · replace hF := g_t hF h3
    refine j_blk (pc' := 10) (lv' := [(0, .ref a0), (1, .int p1), (2, .int p2)]) (st' := [.int (Int32.ofInt (-1))]) E b_c11_beat_9_1 rfl ?_
    have e : res = (Int32.ofInt (-1), s0) := g_inj hF
    subst e
    exact j_iret E hQ d_c11_beat_10 (fun _ h => h)
theorem b_c11_masters_0_3 : bdec cX11_masters 0 [.aload_n 0, .iload_n 1, .iload_n 2] = true := by decide +kernel
theorem d_c11_masters_3 : decode cX11_masters 3 = .ok (.invokevirtual 121, 3) := by decide +kernel
theorem d_c11_masters_6 : decode cX11_masters 6 = .ok (.ifCond .eq 17, 3) := by decide +kernel
theorem b_c11_masters_23_1 : bdec cX11_masters 23 [.iconst (-1)] = true := by decide +kernel
theorem d_c11_masters_24 : decode cX11_masters 24 = .ok (.ireturn, 1) := by decide +kernel
theorem b_c11_masters_9_8 : bdec cX11_masters 9 [.aload_n 0, .iconst 1, .iload_n 1, .ishl, .iconst 1, .iload_n 2, .ishl, .ior] = true := by decide +kernel
theorem d_c11_masters_17 : decode cX11_masters 17 = .ok (.invokevirtual 91, 3) := by decide +kernel
theorem d_c11_masters_20 : decode cX11_masters 20 = .ok (.goto 4, 3) := by decide +kernel
def f11_masters (s0 : HM) (a0 : Nat) (p1 : Int32) (p2 : Int32) : Option (Int32) := ocl s0 a0 11 (obd (f11_areTwo s0 a0 p1 p2) (fun v2 => if v2 = 0 then (some (Int32.ofInt (-1))) else (ocl s0 a0 11 (obd (f11_mastersOf s0 a0 (((Int32.ofInt 1) <<< (p1 &&& 31)) ||| ((Int32.ofInt 1) <<< (p2 &&& 31)))) (fun v5 => some v5)))))
set_option maxRecDepth 100000 in
set_option maxHeartbeats 4000000 in
theorem c11_masters (l : Launch) (κ : KP) (A : Nat → Prop) (s0 : HM) (a0 : Nat) (p1 : Int32) (p2 : Int32) {res : Int32} (hF : f11_masters s0 a0 p1 p2 = some res) : Met l yX11_masters (Cond.code yX11_masters cX11_masters 3 (some .int) :: WT) (rmL 3 0 0) (PP κ A [.ref a0, .int p1, .int p2] (HS κ A s0)) (QQ (some (.int res)) (HS κ A s0) A) 0 0 A := by
  refine met_of (own := RX11) (by decide) rfl (Nat.le_of_ble_eq_true rfl) ?_
  intro Γ E hQ hL hR hA hent hini
  have hAA : ∀ q, A q → jA Γ q := fun q h => by rw [hA]; exact h
  have hroom : ∀ (d mL : Nat) {mc ms : Nat}, d < 3 → mL ≤ 21 → (rmL d mc ms).frames + 1 ≤ (jR Γ).frames ∧ 8 + (mL + 11) + (rmL d mc ms).locals ≤ (jR Γ).locals := fun d mL mc ms h1 h2 => by rw [hR]; exact rmL_le h1 h2
  show J Γ 3 (HS κ A s0) 0 0 0 [(0, .ref a0), (1, .int p1), (2, .int p2)] []
  unfold f11_masters at hF
  refine j_blk (pc' := 3) (lv' := [(0, .ref a0), (1, .int p1), (2, .int p2)]) (st' := [.int p2, .int p1, .ref a0]) E b_c11_masters_0_3 rfl ?_
  replace hF := ocl_at hF
  obtain ⟨hc, hF⟩ := hF
  replace hF := obd_at hF
  obtain ⟨v2, he1, hF⟩ := hF
  refine j_callv [.int p1, .int p2] [] E w_RX11_121 (hroom 2 3 (by decide) (by decide)) hAA (c11_areTwo _ κ A _ _ _ _  he1) (fun _ h => h) (fun _ _ _ h _ _ => h) (fun _ h => j_recv E h hc rfl) rfl rfl (Nat.le_of_ble_eq_true rfl) d_c11_masters_3 ⟨Nat.zero_le _, Nat.zero_le _⟩ ?_
  refine j_if_eq (tgt := 23) E d_c11_masters_6 (by decide) (fun h3 => ?_) (fun h3 => ?_)
  · replace hF := g_t hF h3
    refine j_blk (pc' := 24) (lv' := [(0, .ref a0), (1, .int p1), (2, .int p2)]) (st' := [.int (Int32.ofInt (-1))]) E b_c11_masters_23_1 rfl ?_
    have e : res = Int32.ofInt (-1) := g_inj hF
    subst e
    exact j_iret E hQ d_c11_masters_24 (fun _ h => h)
  · replace hF := g_f hF h3
    refine j_blk (pc' := 17) (lv' := [(0, .ref a0), (1, .int p1), (2, .int p2)]) (st' := [.int (((Int32.ofInt 1) <<< (p1 &&& 31)) ||| ((Int32.ofInt 1) <<< (p2 &&& 31))), .ref a0]) E b_c11_masters_9_8 rfl ?_
    replace hF := ocl_at hF
    obtain ⟨hc, hF⟩ := hF
    replace hF := obd_at hF
    obtain ⟨v5, he4, hF⟩ := hF
    refine j_callv [.int (((Int32.ofInt 1) <<< (p1 &&& 31)) ||| ((Int32.ofInt 1) <<< (p2 &&& 31)))] [] E w_RX11_91 (hroom 2 4 (by decide) (by decide)) hAA (c11_mastersOf _ κ A _ _ _  he4) (fun _ h => h) (fun _ _ _ h _ _ => h) (fun _ h => j_recv E h hc rfl) rfl rfl (Nat.le_of_ble_eq_true rfl) d_c11_masters_17 ⟨Nat.zero_le _, Nat.zero_le _⟩ ?_
    refine j_goto (tgt := 24) E d_c11_masters_20 (by decide) ?_
    have e : res = v5 := g_inj hF
    subst e
    exact j_iret E hQ d_c11_masters_24 (fun _ h => h)
theorem b_c11_orphans_0_4 : bdec cX11_orphans 0 [.iload_n 1, .i2l, .lconst 0, .lconst 1] = true := by decide +kernel
theorem d_c11_orphans_4 : decode cX11_orphans 4 = .ok (.invokestatic 49, 3) := by decide +kernel
theorem d_c11_orphans_7 : decode cX11_orphans 7 = .ok (.ifCond .ne 5, 3) := by decide +kernel
theorem b_c11_orphans_12_6 : bdec cX11_orphans 12 [.iconst 0, .istore_n 2, .bipush (-4), .istore_n 3, .iconst 0, .istore 4] = true := by decide +kernel
theorem b_c11_orphans_20_2 : bdec cX11_orphans 20 [.iload 4, .aload_n 0] = true := by decide +kernel
theorem d_c11_orphans_23 : decode cX11_orphans 23 = .ok (.getfield 9, 3) := by decide +kernel
theorem b_c11_orphans_26_1 : bdec cX11_orphans 26 [.iconst 0] = true := by decide +kernel
theorem d_c11_orphans_27 : decode cX11_orphans 27 = .ok (.iaload, 1) := by decide +kernel
theorem d_c11_orphans_28 : decode cX11_orphans 28 = .ok (.if_icmp .ge 71, 3) := by decide +kernel
theorem b_c11_orphans_31_4 : bdec cX11_orphans 31 [.iload 4, .iconst 1, .iadd, .istore 5] = true := by decide +kernel
theorem b_c11_orphans_37_2 : bdec cX11_orphans 37 [.iload 5, .aload_n 0] = true := by decide +kernel
theorem d_c11_orphans_40 : decode cX11_orphans 40 = .ok (.getfield 9, 3) := by decide +kernel
theorem b_c11_orphans_43_1 : bdec cX11_orphans 43 [.iconst 0] = true := by decide +kernel
theorem d_c11_orphans_44 : decode cX11_orphans 44 = .ok (.iaload, 1) := by decide +kernel
theorem d_c11_orphans_45 : decode cX11_orphans 45 = .ok (.if_icmp .ge 48, 3) := by decide +kernel
theorem b_c11_orphans_48_8 : bdec cX11_orphans 48 [.aload_n 0, .iconst 1, .iload 4, .ishl, .iconst 1, .iload 5, .ishl, .ior] = true := by decide +kernel
theorem d_c11_orphans_58 : decode cX11_orphans 58 = .ok (.invokevirtual 91, 3) := by decide +kernel
theorem d_c11_orphans_61 : decode cX11_orphans 61 = .ok (.ifCond .eq 6, 3) := by decide +kernel
theorem b_c11_orphans_67_2 : bdec cX11_orphans 67 [.iinc 2 1, .iload_n 3] = true := by decide +kernel
theorem d_c11_orphans_71 : decode cX11_orphans 71 = .ok (.ifCond .ge 14, 3) := by decide +kernel
theorem b_c11_orphans_85_3 : bdec cX11_orphans 85 [.iload_n 3, .istore_n 3, .iinc 5 1] = true := by decide +kernel
theorem d_c11_orphans_90 : decode cX11_orphans 90 = .ok (.goto (-53), 3) := by decide +kernel
theorem b_c11_orphans_74_5 : bdec cX11_orphans 74 [.bipush 10, .iload 4, .imul, .iload 5, .iadd] = true := by decide +kernel
theorem d_c11_orphans_82 : decode cX11_orphans 82 = .ok (.goto 4, 3) := by decide +kernel
theorem b_c11_orphans_86_2 : bdec cX11_orphans 86 [.istore_n 3, .iinc 5 1] = true := by decide +kernel
theorem d_c11_orphans_64 : decode cX11_orphans 64 = .ok (.goto 23, 3) := by decide +kernel
theorem b_c11_orphans_87_1 : bdec cX11_orphans 87 [.iinc 5 1] = true := by decide +kernel
theorem b_c11_orphans_93_1 : bdec cX11_orphans 93 [.iinc 4 1] = true := by decide +kernel
theorem d_c11_orphans_96 : decode cX11_orphans 96 = .ok (.goto (-76), 3) := by decide +kernel
theorem b_c11_orphans_99_1 : bdec cX11_orphans 99 [.iload_n 1] = true := by decide +kernel
theorem d_c11_orphans_100 : decode cX11_orphans 100 = .ok (.ifCond .ne 7, 3) := by decide +kernel
theorem b_c11_orphans_107_1 : bdec cX11_orphans 107 [.iload_n 3] = true := by decide +kernel
theorem d_c11_orphans_108 : decode cX11_orphans 108 = .ok (.ireturn, 1) := by decide +kernel
theorem b_c11_orphans_103_1 : bdec cX11_orphans 103 [.iload_n 2] = true := by decide +kernel
theorem d_c11_orphans_104 : decode cX11_orphans 104 = .ok (.goto 4, 3) := by decide +kernel
theorem b_c11_orphans_10_1 : bdec cX11_orphans 10 [.iconst (-1)] = true := by decide +kernel
theorem d_c11_orphans_11 : decode cX11_orphans 11 = .ok (.ireturn, 1) := by decide +kernel
def f11_orphans_L37 (s0 : HM) (a0 : Nat) (p1 : Int32) (x20_4 : Int32) (w : Int32 × Int32 × Int32) : Option ((Int32 × Int32 × Int32) ⊕ (Int32 × Int32)) := match w with
  | (x37_2, x37_3, x37_5) => obd (hfld s0 [11] 0 a0) (fun v10 => orf v10 (fun b11 => obd (hald s0 b11 (Int32.ofInt 0)) (fun v12 => if v12 ≤ x37_5 then (some (.inr (x37_2, x37_3))) else (ocl s0 a0 11 (obd (f11_mastersOf s0 a0 (((Int32.ofInt 1) <<< (x20_4 &&& 31)) ||| ((Int32.ofInt 1) <<< (x37_5 &&& 31)))) (fun v15 => if v15 = 0 then (if 0 ≤ x37_3 then (some (.inl (x37_2 + Int32.ofInt 1, x37_3, x37_5 + Int32.ofInt 1))) else (some (.inl (x37_2 + Int32.ofInt 1, (((Int8.ofInt 10).toInt32) * x20_4) + x37_5, x37_5 + Int32.ofInt 1)))) else (some (.inl (x37_2, x37_3, x37_5 + Int32.ofInt 1)))))))))
def f11_orphans_L20 (s0 : HM) (a0 : Nat) (p1 : Int32) (w : Int32 × Int32 × Int32) : Option ((Int32 × Int32 × Int32) ⊕ (Int32 × Int32)) := match w with
  | (x20_2, x20_3, x20_4) => obd (hfld s0 [11] 0 a0) (fun v5 => orf v5 (fun b6 => obd (hald s0 b6 (Int32.ofInt 0)) (fun v7 => if v7 ≤ x20_4 then (some (.inr (x20_2, x20_3))) else (obd (iter (f11_orphans_L37 s0 a0 p1 x20_4) FU (x20_2, x20_3, x20_4 + (Int32.ofInt 1))) (fun o9 => match o9 with | (e37_2, e37_3) => some (.inl (e37_2, e37_3, x20_4 + Int32.ofInt 1)))))))
def f11_orphans (s0 : HM) (a0 : Nat) (p1 : Int32) : Option (Int32) := obd (f11_isIn p1.toInt64 (Int64.ofNat 0) (Int64.ofNat 1)) (fun v2 => if v2 = 0 then (some (Int32.ofInt (-1))) else (obd (iter (f11_orphans_L20 s0 a0 p1) FU (Int32.ofInt 0, (Int8.ofInt (-4)).toInt32, Int32.ofInt 0)) (fun o4 => match o4 with | (e20_2, e20_3) => if p1 = 0 then (some e20_2) else (some e20_3))))
set_option maxRecDepth 100000 in
set_option maxHeartbeats 4000000 in
theorem c11_orphans (l : Launch) (κ : KP) (A : Nat → Prop) (s0 : HM) (a0 : Nat) (p1 : Int32) {res : Int32} (hF : f11_orphans s0 a0 p1 = some res) : Met l yX11_orphans (Cond.code yX11_orphans cX11_orphans 6 (some .int) :: WT) (rmL 3 0 0) (PP κ A [.ref a0, .int p1] (HS κ A s0)) (QQ (some (.int res)) (HS κ A s0) A) 0 0 A := by
  refine met_of (own := RX11) (by decide) rfl (Nat.le_of_ble_eq_true rfl) ?_
  intro Γ E hQ hL hR hA hent hini
  have hAA : ∀ q, A q → jA Γ q := fun q h => by rw [hA]; exact h
  have hroom : ∀ (d mL : Nat) {mc ms : Nat}, d < 3 → mL ≤ 21 → (rmL d mc ms).frames + 1 ≤ (jR Γ).frames ∧ 8 + (mL + 11) + (rmL d mc ms).locals ≤ (jR Γ).locals := fun d mL mc ms h1 h2 => by rw [hR]; exact rmL_le h1 h2
  show J Γ 6 (HS κ A s0) 0 0 0 [(0, .ref a0), (1, .int p1)] []
  unfold f11_orphans at hF
  refine j_blk (pc' := 4) (lv' := [(0, .ref a0), (1, .int p1)]) (st' := [.long (Int64.ofNat 1), .long (Int64.ofNat 0), .long p1.toInt64]) E b_c11_orphans_0_4 rfl ?_
  replace hF := obd_at hF
  obtain ⟨v2, he1, hF⟩ := hF
  refine j_calls [.long p1.toInt64, .long (Int64.ofNat 0), .long (Int64.ofNat 1)] [] E w_RX11_49 (hroom 0 6 (by decide) (by decide)) hAA (c11_isIn _ κ A (HS κ A s0) _ _ _  he1) (fun _ h => h) (fun _ _ _ h _ _ => h) rfl rfl (Nat.le_of_ble_eq_true rfl) d_c11_orphans_4 ⟨Nat.zero_le _, Nat.zero_le _⟩ ?_
  refine j_if_ne (tgt := 12) E d_c11_orphans_7 (by decide) (fun h3 => ?_) (fun h3 => ?_)
  · replace hF := g_f hF h3
    refine j_blk (pc' := 20) (lv' := [(4, .int (Int32.ofInt 0)), (3, .int ((Int8.ofInt (-4)).toInt32)), (2, .int (Int32.ofInt 0)), (0, .ref a0), (1, .int p1)]) (st' := []) E b_c11_orphans_12_6 rfl ?_
    refine j_lv [3, 4, 2, 1, 0] rfl ?_
    replace hF := obd_at hF
    obtain ⟨o4, ho4, hF⟩ := hF
    have lpo4 : ∀ (fu : Nat) (w : Int32 × Int32 × Int32) (o : Int32 × Int32), iter (f11_orphans_L20 s0 a0 p1) fu w = some o → (fun (o : Int32 × Int32) => J Γ 6 (HS κ A s0) 0 0 99 [(1, .int p1), (2, .int o.1), (3, .int o.2)] []) o → (fun (w : Int32 × Int32 × Int32) => J Γ 6 (HS κ A s0) 0 0 20 [(0, .ref a0), (1, .int p1), (2, .int w.1), (3, .int w.2.1), (4, .int w.2.2)] []) w := by
      refine j_iter (P := fun (w : Int32 × Int32 × Int32) => J Γ 6 (HS κ A s0) 0 0 20 [(0, .ref a0), (1, .int p1), (2, .int w.1), (3, .int w.2.1), (4, .int w.2.2)] []) (G := fun (o : Int32 × Int32) => J Γ 6 (HS κ A s0) 0 0 99 [(1, .int p1), (2, .int o.1), (3, .int o.2)] []) ?_
      rintro ⟨x20_2, x20_3, x20_4⟩ q hF hI hO
      show J Γ 6 (HS κ A s0) 0 0 20 [(0, .ref a0), (1, .int p1), (2, .int x20_2), (3, .int x20_3), (4, .int x20_4)] []
      unfold f11_orphans_L20 at hF
      refine j_blk (pc' := 23) (lv' := [(0, .ref a0), (1, .int p1), (2, .int x20_2), (3, .int x20_3), (4, .int x20_4)]) (st' := [.ref a0, .int x20_4]) E b_c11_orphans_20_2 rfl ?_
      replace hF := obd_at hF
      obtain ⟨v5, ev5, hF⟩ := hF
      refine j_getf E fg_RX11_9 d_c11_orphans_23 ev5 ?_
      refine j_blk (pc' := 27) (lv' := [(0, .ref a0), (1, .int p1), (2, .int x20_2), (3, .int x20_3), (4, .int x20_4)]) (st' := [.int (Int32.ofInt 0), v5, .int x20_4]) E b_c11_orphans_26_1 rfl ?_
      replace hF := orf_at hF
      obtain ⟨b6, rfl, hF⟩ := hF
      replace hF := obd_at hF
      obtain ⟨v7, ev7, hF⟩ := hF
      refine j_iald E d_c11_orphans_27 ev7 ?_
      refine j_icmp_ge (tgt := 99) E d_c11_orphans_28 (by decide) (fun h8 => ?_) (fun h8 => ?_)
      · replace hF := g_t hF h8
        refine j_lv [1, 2, 3] rfl ?_
        exact hO _ (g_inj hF)
      · replace hF := g_f hF h8
        refine j_blk (pc' := 37) (lv' := [(5, .int (x20_4 + (Int32.ofInt 1))), (0, .ref a0), (1, .int p1), (2, .int x20_2), (3, .int x20_3), (4, .int x20_4)]) (st' := []) E b_c11_orphans_31_4 rfl ?_
        refine j_lv [1, 2, 3, 4, 5, 0] rfl ?_
        replace hF := obd_at hF
        obtain ⟨o9, ho9, hF⟩ := hF
        have lpo9 : ∀ (fu : Nat) (w : Int32 × Int32 × Int32) (o : Int32 × Int32), iter (f11_orphans_L37 s0 a0 p1 x20_4) fu w = some o → (fun (o : Int32 × Int32) => J Γ 6 (HS κ A s0) 0 0 93 [(0, .ref a0), (1, .int p1), (2, .int o.1), (3, .int o.2), (4, .int x20_4)] []) o → (fun (w : Int32 × Int32 × Int32) => J Γ 6 (HS κ A s0) 0 0 37 [(0, .ref a0), (1, .int p1), (2, .int w.1), (3, .int w.2.1), (4, .int x20_4), (5, .int w.2.2)] []) w := by
          refine j_iter (P := fun (w : Int32 × Int32 × Int32) => J Γ 6 (HS κ A s0) 0 0 37 [(0, .ref a0), (1, .int p1), (2, .int w.1), (3, .int w.2.1), (4, .int x20_4), (5, .int w.2.2)] []) (G := fun (o : Int32 × Int32) => J Γ 6 (HS κ A s0) 0 0 93 [(0, .ref a0), (1, .int p1), (2, .int o.1), (3, .int o.2), (4, .int x20_4)] []) ?_
          rintro ⟨x37_2, x37_3, x37_5⟩ q hF hI hO
          show J Γ 6 (HS κ A s0) 0 0 37 [(0, .ref a0), (1, .int p1), (2, .int x37_2), (3, .int x37_3), (4, .int x20_4), (5, .int x37_5)] []
          unfold f11_orphans_L37 at hF
          refine j_blk (pc' := 40) (lv' := [(0, .ref a0), (1, .int p1), (2, .int x37_2), (3, .int x37_3), (4, .int x20_4), (5, .int x37_5)]) (st' := [.ref a0, .int x37_5]) E b_c11_orphans_37_2 rfl ?_
          replace hF := obd_at hF
          obtain ⟨v10, ev10, hF⟩ := hF
          refine j_getf E fg_RX11_9 d_c11_orphans_40 ev10 ?_
          refine j_blk (pc' := 44) (lv' := [(0, .ref a0), (1, .int p1), (2, .int x37_2), (3, .int x37_3), (4, .int x20_4), (5, .int x37_5)]) (st' := [.int (Int32.ofInt 0), v10, .int x37_5]) E b_c11_orphans_43_1 rfl ?_
          replace hF := orf_at hF
          obtain ⟨b11, rfl, hF⟩ := hF
          replace hF := obd_at hF
          obtain ⟨v12, ev12, hF⟩ := hF
          refine j_iald E d_c11_orphans_44 ev12 ?_
          refine j_icmp_ge (tgt := 93) E d_c11_orphans_45 (by decide) (fun h13 => ?_) (fun h13 => ?_)
          · replace hF := g_t hF h13
            refine j_lv [0, 1, 2, 3, 4] rfl ?_
            exact hO _ (g_inj hF)
          · replace hF := g_f hF h13
            refine j_blk (pc' := 58) (lv' := [(0, .ref a0), (1, .int p1), (2, .int x37_2), (3, .int x37_3), (4, .int x20_4), (5, .int x37_5)]) (st' := [.int (((Int32.ofInt 1) <<< (x20_4 &&& 31)) ||| ((Int32.ofInt 1) <<< (x37_5 &&& 31))), .ref a0]) E b_c11_orphans_48_8 rfl ?_
            replace hF := ocl_at hF
            obtain ⟨hc, hF⟩ := hF
            replace hF := obd_at hF
            obtain ⟨v15, he14, hF⟩ := hF
            refine j_callv [.int (((Int32.ofInt 1) <<< (x20_4 &&& 31)) ||| ((Int32.ofInt 1) <<< (x37_5 &&& 31)))] [] E w_RX11_91 (hroom 2 4 (by decide) (by decide)) hAA (c11_mastersOf _ κ A _ _ _  he14) (fun _ h => h) (fun _ _ _ h _ _ => h) (fun _ h => j_recv E h hc rfl) rfl rfl (Nat.le_of_ble_eq_true rfl) d_c11_orphans_58 ⟨Nat.zero_le _, Nat.zero_le _⟩ ?_
            refine j_if_eq (tgt := 67) E d_c11_orphans_61 (by decide) (fun h16 => ?_) (fun h16 => ?_)
            · replace hF := g_t hF h16
              refine j_blk (pc' := 71) (lv' := [(2, .int (x37_2 + Int32.ofInt 1)), (0, .ref a0), (1, .int p1), (3, .int x37_3), (4, .int x20_4), (5, .int x37_5)]) (st' := [.int x37_3]) E b_c11_orphans_67_2 rfl ?_
              refine j_if_ge (tgt := 85) E d_c11_orphans_71 (by decide) (fun h17 => ?_) (fun h17 => ?_)
              · replace hF := g_t hF h17
                refine j_blk (pc' := 90) (lv' := [(5, .int (x37_5 + Int32.ofInt 1)), (3, .int x37_3), (2, .int (x37_2 + Int32.ofInt 1)), (0, .ref a0), (1, .int p1), (4, .int x20_4)]) (st' := []) E b_c11_orphans_85_3 rfl ?_
                refine j_goto (tgt := 37) E d_c11_orphans_90 (by decide) ?_
                refine j_lv [3, 4, 2, 1, 5, 0] rfl ?_
                exact hI _ (g_inj hF)
              · replace hF := g_f hF h17
                refine j_blk (pc' := 82) (lv' := [(2, .int (x37_2 + Int32.ofInt 1)), (0, .ref a0), (1, .int p1), (3, .int x37_3), (4, .int x20_4), (5, .int x37_5)]) (st' := [.int ((((Int8.ofInt 10).toInt32) * x20_4) + x37_5)]) E b_c11_orphans_74_5 rfl ?_
                refine j_goto (tgt := 86) E d_c11_orphans_82 (by decide) ?_
                refine j_blk (pc' := 90) (lv' := [(5, .int (x37_5 + Int32.ofInt 1)), (3, .int ((((Int8.ofInt 10).toInt32) * x20_4) + x37_5)), (2, .int (x37_2 + Int32.ofInt 1)), (0, .ref a0), (1, .int p1), (4, .int x20_4)]) (st' := []) E b_c11_orphans_86_2 rfl ?_
                refine j_goto (tgt := 37) E d_c11_orphans_90 (by decide) ?_
                refine j_lv [3, 4, 2, 1, 5, 0] rfl ?_
                exact hI _ (g_inj hF)
            · replace hF := g_f hF h16
              refine j_goto (tgt := 87) E d_c11_orphans_64 (by decide) ?_
              refine j_blk (pc' := 90) (lv' := [(5, .int (x37_5 + Int32.ofInt 1)), (0, .ref a0), (1, .int p1), (2, .int x37_2), (3, .int x37_3), (4, .int x20_4)]) (st' := []) E b_c11_orphans_87_1 rfl ?_
              refine j_goto (tgt := 37) E d_c11_orphans_90 (by decide) ?_
              refine j_lv [1, 2, 3, 4, 5, 0] rfl ?_
              exact hI _ (g_inj hF)
        refine lpo9 FU (x20_2, x20_3, x20_4 + (Int32.ofInt 1)) o9 ho9 ?_
        obtain ⟨e37_2, e37_3⟩ := o9
        show J Γ 6 (HS κ A s0) 0 0 93 [(0, .ref a0), (1, .int p1), (2, .int e37_2), (3, .int e37_3), (4, .int x20_4)] []
        refine j_blk (pc' := 96) (lv' := [(4, .int (x20_4 + Int32.ofInt 1)), (0, .ref a0), (1, .int p1), (2, .int e37_2), (3, .int e37_3)]) (st' := []) E b_c11_orphans_93_1 rfl ?_
        refine j_goto (tgt := 20) E d_c11_orphans_96 (by decide) ?_
        refine j_lv [1, 2, 3, 4, 0] rfl ?_
        exact hI _ (g_inj hF)
    refine lpo4 FU (Int32.ofInt 0, (Int8.ofInt (-4)).toInt32, Int32.ofInt 0) o4 ho4 ?_
    obtain ⟨e20_2, e20_3⟩ := o4
    show J Γ 6 (HS κ A s0) 0 0 99 [(1, .int p1), (2, .int e20_2), (3, .int e20_3)] []
    refine j_blk (pc' := 100) (lv' := [(1, .int p1), (2, .int e20_2), (3, .int e20_3)]) (st' := [.int p1]) E b_c11_orphans_99_1 rfl ?_
    refine j_if_ne (tgt := 107) E d_c11_orphans_100 (by decide) (fun h18 => ?_) (fun h18 => ?_)
    · replace hF := g_f hF h18
      refine j_blk (pc' := 108) (lv' := [(1, .int p1), (2, .int e20_2), (3, .int e20_3)]) (st' := [.int e20_3]) E b_c11_orphans_107_1 rfl ?_
      have e : res = e20_3 := g_inj hF
      subst e
      exact j_iret E hQ d_c11_orphans_108 (fun _ h => h)
    · replace hF := g_t hF h18
      refine j_blk (pc' := 104) (lv' := [(1, .int p1), (2, .int e20_2), (3, .int e20_3)]) (st' := [.int e20_2]) E b_c11_orphans_103_1 rfl ?_
      refine j_goto (tgt := 108) E d_c11_orphans_104 (by decide) ?_
      have e : res = e20_2 := g_inj hF
      subst e
      exact j_iret E hQ d_c11_orphans_108 (fun _ h => h)
  · replace hF := g_t hF h3
    refine j_blk (pc' := 11) (lv' := [(0, .ref a0), (1, .int p1)]) (st' := [.int (Int32.ofInt (-1))]) E b_c11_orphans_10_1 rfl ?_
    have e : res = Int32.ofInt (-1) := g_inj hF
    subst e
    exact j_iret E hQ d_c11_orphans_11 (fun _ h => h)
theorem b_c11_wrongThree_0_3 : bdec cX11_wrongThree 0 [.aload_n 0, .iload_n 1, .iload_n 2] = true := by decide +kernel
theorem d_c11_wrongThree_3 : decode cX11_wrongThree 3 = .ok (.invokevirtual 220, 3) := by decide +kernel
theorem b_c11_wrongThree_6_6 : bdec cX11_wrongThree 6 [.istore_n 3, .aload_n 0, .iload_n 1, .iload_n 2, .iconst 1, .iadd] = true := by decide +kernel
theorem d_c11_wrongThree_12 : decode cX11_wrongThree 12 = .ok (.invokevirtual 220, 3) := by decide +kernel
theorem b_c11_wrongThree_15_6 : bdec cX11_wrongThree 15 [.istore 4, .aload_n 0, .iload_n 1, .iload_n 2, .iconst 2, .iadd] = true := by decide +kernel
theorem d_c11_wrongThree_22 : decode cX11_wrongThree 22 = .ok (.invokevirtual 220, 3) := by decide +kernel
theorem b_c11_wrongThree_25_3 : bdec cX11_wrongThree 25 [.istore 5, .aload_n 0, .iload_n 3] = true := by decide +kernel
theorem d_c11_wrongThree_29 : decode cX11_wrongThree 29 = .ok (.invokevirtual 55, 3) := by decide +kernel
theorem d_c11_wrongThree_32 : decode cX11_wrongThree 32 = .ok (.ifCond .ne 5, 3) := by decide +kernel
theorem b_c11_wrongThree_37_3 : bdec cX11_wrongThree 37 [.aload_n 0, .iload_n 3, .iload 4] = true := by decide +kernel
theorem d_c11_wrongThree_41 : decode cX11_wrongThree 41 = .ok (.invokevirtual 121, 3) := by decide +kernel
theorem d_c11_wrongThree_44 : decode cX11_wrongThree 44 = .ok (.ifCond .ne 7, 3) := by decide +kernel
theorem b_c11_wrongThree_51_2 : bdec cX11_wrongThree 51 [.aload_n 0, .iload 5] = true := by decide +kernel
theorem d_c11_wrongThree_54 : decode cX11_wrongThree 54 = .ok (.invokevirtual 55, 3) := by decide +kernel
theorem d_c11_wrongThree_57 : decode cX11_wrongThree 57 = .ok (.ifCond .eq 29, 3) := by decide +kernel
theorem b_c11_wrongThree_86_3 : bdec cX11_wrongThree 86 [.iload_n 2, .iconst 2, .iadd] = true := by decide +kernel
theorem d_c11_wrongThree_89 : decode cX11_wrongThree 89 = .ok (.ireturn, 1) := by decide +kernel
theorem b_c11_wrongThree_60_8 : bdec cX11_wrongThree 60 [.aload_n 0, .iconst 1, .iload_n 3, .ishl, .iconst 1, .iload 4, .ishl, .ior] = true := by decide +kernel
theorem d_c11_wrongThree_69 : decode cX11_wrongThree 69 = .ok (.invokevirtual 91, 3) := by decide +kernel
theorem b_c11_wrongThree_72_5 : bdec cX11_wrongThree 72 [.iload 5, .ishr, .iconst 1, .iand, .iconst 1] = true := by decide +kernel
theorem d_c11_wrongThree_78 : decode cX11_wrongThree 78 = .ok (.if_icmp .ne 8, 3) := by decide +kernel
theorem b_c11_wrongThree_81_1 : bdec cX11_wrongThree 81 [.bipush (-4)] = true := by decide +kernel
theorem d_c11_wrongThree_83 : decode cX11_wrongThree 83 = .ok (.goto 6, 3) := by decide +kernel
theorem b_c11_wrongThree_47_3 : bdec cX11_wrongThree 47 [.iload_n 2, .iconst 1, .iadd] = true := by decide +kernel
theorem d_c11_wrongThree_50 : decode cX11_wrongThree 50 = .ok (.ireturn, 1) := by decide +kernel
theorem b_c11_wrongThree_35_1 : bdec cX11_wrongThree 35 [.iload_n 2] = true := by decide +kernel
theorem d_c11_wrongThree_36 : decode cX11_wrongThree 36 = .ok (.ireturn, 1) := by decide +kernel
def f11_wrongThree (s0 : HM) (a0 : Nat) (p1 : Int32) (p2 : Int32) : Option (Int32) := ocl s0 a0 11 (obd (f11_told s0 a0 p1 p2) (fun v2 => ocl s0 a0 11 (obd (f11_told s0 a0 p1 (p2 + (Int32.ofInt 1))) (fun v4 => ocl s0 a0 11 (obd (f11_told s0 a0 p1 (p2 + (Int32.ofInt 2))) (fun v6 => ocl s0 a0 11 (obd (f11_isOne s0 a0 v2) (fun v8 => if v8 = 0 then (some p2) else (ocl s0 a0 11 (obd (f11_areTwo s0 a0 v2 v4) (fun v11 => if v11 = 0 then (some (p2 + (Int32.ofInt 1))) else (ocl s0 a0 11 (obd (f11_isOne s0 a0 v6) (fun v14 => if v14 = 0 then (some (p2 + (Int32.ofInt 2))) else (ocl s0 a0 11 (obd (f11_mastersOf s0 a0 (((Int32.ofInt 1) <<< (v2 &&& 31)) ||| ((Int32.ofInt 1) <<< (v4 &&& 31)))) (fun v17 => if ((v17 >>> (v6 &&& 31)) &&& (Int32.ofInt 1)) = (Int32.ofInt 1) then (some ((Int8.ofInt (-4)).toInt32)) else (some (p2 + (Int32.ofInt 2))))))))))))))))))))
set_option maxRecDepth 100000 in
set_option maxHeartbeats 4000000 in
theorem c11_wrongThree (l : Launch) (κ : KP) (A : Nat → Prop) (s0 : HM) (a0 : Nat) (p1 : Int32) (p2 : Int32) {res : Int32} (hF : f11_wrongThree s0 a0 p1 p2 = some res) : Met l yX11_wrongThree (Cond.code yX11_wrongThree cX11_wrongThree 6 (some .int) :: WT) (rmL 3 0 0) (PP κ A [.ref a0, .int p1, .int p2] (HS κ A s0)) (QQ (some (.int res)) (HS κ A s0) A) 0 0 A := by
  refine met_of (own := RX11) (by decide) rfl (Nat.le_of_ble_eq_true rfl) ?_
  intro Γ E hQ hL hR hA hent hini
  have hAA : ∀ q, A q → jA Γ q := fun q h => by rw [hA]; exact h
  have hroom : ∀ (d mL : Nat) {mc ms : Nat}, d < 3 → mL ≤ 21 → (rmL d mc ms).frames + 1 ≤ (jR Γ).frames ∧ 8 + (mL + 11) + (rmL d mc ms).locals ≤ (jR Γ).locals := fun d mL mc ms h1 h2 => by rw [hR]; exact rmL_le h1 h2
  show J Γ 6 (HS κ A s0) 0 0 0 [(0, .ref a0), (1, .int p1), (2, .int p2)] []
  unfold f11_wrongThree at hF
  refine j_blk (pc' := 3) (lv' := [(0, .ref a0), (1, .int p1), (2, .int p2)]) (st' := [.int p2, .int p1, .ref a0]) E b_c11_wrongThree_0_3 rfl ?_
  replace hF := ocl_at hF
  obtain ⟨hc, hF⟩ := hF
  replace hF := obd_at hF
  obtain ⟨v2, he1, hF⟩ := hF
  refine j_callv [.int p1, .int p2] [] E w_RX11_220 (hroom 0 3 (by decide) (by decide)) hAA (c11_told _ κ A _ _ _ _  he1) (fun _ h => h) (fun _ _ _ h _ _ => h) (fun _ h => j_recv E h hc rfl) rfl rfl (Nat.le_of_ble_eq_true rfl) d_c11_wrongThree_3 ⟨Nat.zero_le _, Nat.zero_le _⟩ ?_
  refine j_blk (pc' := 12) (lv' := [(3, .int v2), (0, .ref a0), (1, .int p1), (2, .int p2)]) (st' := [.int (p2 + (Int32.ofInt 1)), .int p1, .ref a0]) E b_c11_wrongThree_6_6 rfl ?_
  replace hF := ocl_at hF
  obtain ⟨hc, hF⟩ := hF
  replace hF := obd_at hF
  obtain ⟨v4, he3, hF⟩ := hF
  refine j_callv [.int p1, .int (p2 + (Int32.ofInt 1))] [] E w_RX11_220 (hroom 0 3 (by decide) (by decide)) hAA (c11_told _ κ A _ _ _ _  he3) (fun _ h => h) (fun _ _ _ h _ _ => h) (fun _ h => j_recv E h hc rfl) rfl rfl (Nat.le_of_ble_eq_true rfl) d_c11_wrongThree_12 ⟨Nat.zero_le _, Nat.zero_le _⟩ ?_
  refine j_blk (pc' := 22) (lv' := [(4, .int v4), (3, .int v2), (0, .ref a0), (1, .int p1), (2, .int p2)]) (st' := [.int (p2 + (Int32.ofInt 2)), .int p1, .ref a0]) E b_c11_wrongThree_15_6 rfl ?_
  replace hF := ocl_at hF
  obtain ⟨hc, hF⟩ := hF
  replace hF := obd_at hF
  obtain ⟨v6, he5, hF⟩ := hF
  refine j_callv [.int p1, .int (p2 + (Int32.ofInt 2))] [] E w_RX11_220 (hroom 0 3 (by decide) (by decide)) hAA (c11_told _ κ A _ _ _ _  he5) (fun _ h => h) (fun _ _ _ h _ _ => h) (fun _ h => j_recv E h hc rfl) rfl rfl (Nat.le_of_ble_eq_true rfl) d_c11_wrongThree_22 ⟨Nat.zero_le _, Nat.zero_le _⟩ ?_
  refine j_blk (pc' := 29) (lv' := [(5, .int v6), (4, .int v4), (3, .int v2), (0, .ref a0), (1, .int p1), (2, .int p2)]) (st' := [.int v2, .ref a0]) E b_c11_wrongThree_25_3 rfl ?_
  replace hF := ocl_at hF
  obtain ⟨hc, hF⟩ := hF
  replace hF := obd_at hF
  obtain ⟨v8, he7, hF⟩ := hF
  refine j_callv [.int v2] [] E w_RX11_55 (hroom 1 2 (by decide) (by decide)) hAA (c11_isOne _ κ A _ _ _  he7) (fun _ h => h) (fun _ _ _ h _ _ => h) (fun _ h => j_recv E h hc rfl) rfl rfl (Nat.le_of_ble_eq_true rfl) d_c11_wrongThree_29 ⟨Nat.zero_le _, Nat.zero_le _⟩ ?_
  refine j_if_ne (tgt := 37) E d_c11_wrongThree_32 (by decide) (fun h9 => ?_) (fun h9 => ?_)
  · replace hF := g_f hF h9
    refine j_blk (pc' := 41) (lv' := [(5, .int v6), (4, .int v4), (3, .int v2), (0, .ref a0), (1, .int p1), (2, .int p2)]) (st' := [.int v4, .int v2, .ref a0]) E b_c11_wrongThree_37_3 rfl ?_
    replace hF := ocl_at hF
    obtain ⟨hc, hF⟩ := hF
    replace hF := obd_at hF
    obtain ⟨v11, he10, hF⟩ := hF
    refine j_callv [.int v2, .int v4] [] E w_RX11_121 (hroom 2 3 (by decide) (by decide)) hAA (c11_areTwo _ κ A _ _ _ _  he10) (fun _ h => h) (fun _ _ _ h _ _ => h) (fun _ h => j_recv E h hc rfl) rfl rfl (Nat.le_of_ble_eq_true rfl) d_c11_wrongThree_41 ⟨Nat.zero_le _, Nat.zero_le _⟩ ?_
    refine j_if_ne (tgt := 51) E d_c11_wrongThree_44 (by decide) (fun h12 => ?_) (fun h12 => ?_)
    · replace hF := g_f hF h12
      refine j_blk (pc' := 54) (lv' := [(5, .int v6), (4, .int v4), (3, .int v2), (0, .ref a0), (1, .int p1), (2, .int p2)]) (st' := [.int v6, .ref a0]) E b_c11_wrongThree_51_2 rfl ?_
      replace hF := ocl_at hF
      obtain ⟨hc, hF⟩ := hF
      replace hF := obd_at hF
      obtain ⟨v14, he13, hF⟩ := hF
      refine j_callv [.int v6] [] E w_RX11_55 (hroom 1 2 (by decide) (by decide)) hAA (c11_isOne _ κ A _ _ _  he13) (fun _ h => h) (fun _ _ _ h _ _ => h) (fun _ h => j_recv E h hc rfl) rfl rfl (Nat.le_of_ble_eq_true rfl) d_c11_wrongThree_54 ⟨Nat.zero_le _, Nat.zero_le _⟩ ?_
      refine j_if_eq (tgt := 86) E d_c11_wrongThree_57 (by decide) (fun h15 => ?_) (fun h15 => ?_)
      · replace hF := g_t hF h15
        refine j_blk (pc' := 89) (lv' := [(5, .int v6), (4, .int v4), (3, .int v2), (0, .ref a0), (1, .int p1), (2, .int p2)]) (st' := [.int (p2 + (Int32.ofInt 2))]) E b_c11_wrongThree_86_3 rfl ?_
        have e : res = p2 + (Int32.ofInt 2) := g_inj hF
        subst e
        exact j_iret E hQ d_c11_wrongThree_89 (fun _ h => h)
      · replace hF := g_f hF h15
        refine j_blk (pc' := 69) (lv' := [(5, .int v6), (4, .int v4), (3, .int v2), (0, .ref a0), (1, .int p1), (2, .int p2)]) (st' := [.int (((Int32.ofInt 1) <<< (v2 &&& 31)) ||| ((Int32.ofInt 1) <<< (v4 &&& 31))), .ref a0]) E b_c11_wrongThree_60_8 rfl ?_
        replace hF := ocl_at hF
        obtain ⟨hc, hF⟩ := hF
        replace hF := obd_at hF
        obtain ⟨v17, he16, hF⟩ := hF
        refine j_callv [.int (((Int32.ofInt 1) <<< (v2 &&& 31)) ||| ((Int32.ofInt 1) <<< (v4 &&& 31)))] [] E w_RX11_91 (hroom 2 4 (by decide) (by decide)) hAA (c11_mastersOf _ κ A _ _ _  he16) (fun _ h => h) (fun _ _ _ h _ _ => h) (fun _ h => j_recv E h hc rfl) rfl rfl (Nat.le_of_ble_eq_true rfl) d_c11_wrongThree_69 ⟨Nat.zero_le _, Nat.zero_le _⟩ ?_
        refine j_blk (pc' := 78) (lv' := [(5, .int v6), (4, .int v4), (3, .int v2), (0, .ref a0), (1, .int p1), (2, .int p2)]) (st' := [.int (Int32.ofInt 1), .int ((v17 >>> (v6 &&& 31)) &&& (Int32.ofInt 1))]) E b_c11_wrongThree_72_5 rfl ?_
        refine j_icmp_ne (tgt := 86) E d_c11_wrongThree_78 (by decide) (fun h18 => ?_) (fun h18 => ?_)
        · replace hF := g_f hF h18
          refine j_blk (pc' := 89) (lv' := [(5, .int v6), (4, .int v4), (3, .int v2), (0, .ref a0), (1, .int p1), (2, .int p2)]) (st' := [.int (p2 + (Int32.ofInt 2))]) E b_c11_wrongThree_86_3 rfl ?_
          have e : res = p2 + (Int32.ofInt 2) := g_inj hF
          subst e
          exact j_iret E hQ d_c11_wrongThree_89 (fun _ h => h)
        · replace hF := g_t hF h18
          refine j_blk (pc' := 83) (lv' := [(5, .int v6), (4, .int v4), (3, .int v2), (0, .ref a0), (1, .int p1), (2, .int p2)]) (st' := [.int ((Int8.ofInt (-4)).toInt32)]) E b_c11_wrongThree_81_1 rfl ?_
          refine j_goto (tgt := 89) E d_c11_wrongThree_83 (by decide) ?_
          have e : res = (Int8.ofInt (-4)).toInt32 := g_inj hF
          subst e
          exact j_iret E hQ d_c11_wrongThree_89 (fun _ h => h)
    · replace hF := g_t hF h12
      refine j_blk (pc' := 50) (lv' := [(5, .int v6), (4, .int v4), (3, .int v2), (0, .ref a0), (1, .int p1), (2, .int p2)]) (st' := [.int (p2 + (Int32.ofInt 1))]) E b_c11_wrongThree_47_3 rfl ?_
      have e : res = p2 + (Int32.ofInt 1) := g_inj hF
      subst e
      exact j_iret E hQ d_c11_wrongThree_50 (fun _ h => h)
  · replace hF := g_t hF h9
    refine j_blk (pc' := 36) (lv' := [(5, .int v6), (4, .int v4), (3, .int v2), (0, .ref a0), (1, .int p1), (2, .int p2)]) (st' := [.int p2]) E b_c11_wrongThree_35_1 rfl ?_
    have e : res = p2 := g_inj hF
    subst e
    exact j_iret E hQ d_c11_wrongThree_36 (fun _ h => h)
theorem b_c11_put_0_3 : bdec cX11_put 0 [.aload_n 0, .iload_n 1, .iconst (-1)] = true := by decide +kernel
theorem d_c11_put_3 : decode cX11_put 3 = .ok (.invokevirtual 134, 3) := by decide +kernel
theorem b_c11_put_6_2 : bdec cX11_put 6 [.istore 4, .iload 4] = true := by decide +kernel
theorem d_c11_put_10 : decode cX11_put 10 = .ok (.ifCond .eq 6, 3) := by decide +kernel
theorem b_c11_put_16_4 : bdec cX11_put 16 [.iload_n 2, .i2l, .lconst 0, .aload_n 0] = true := by decide +kernel
theorem d_c11_put_20 : decode cX11_put 20 = .ok (.getfield 28, 3) := by decide +kernel
theorem b_c11_put_23_1 : bdec cX11_put 23 [.iload_n 1] = true := by decide +kernel
theorem d_c11_put_24 : decode cX11_put 24 = .ok (.iaload, 1) := by decide +kernel
theorem b_c11_put_25_3 : bdec cX11_put 25 [.iconst 1, .isub, .i2l] = true := by decide +kernel
theorem d_c11_put_28 : decode cX11_put 28 = .ok (.invokestatic 49, 3) := by decide +kernel
theorem d_c11_put_31 : decode cX11_put 31 = .ok (.ifCond .ne 6, 3) := by decide +kernel
theorem b_c11_put_37_1 : bdec cX11_put 37 [.aload_n 0] = true := by decide +kernel
theorem d_c11_put_38 : decode cX11_put 38 = .ok (.getfield 31, 3) := by decide +kernel
theorem b_c11_put_41_6 : bdec cX11_put 41 [.bipush 100, .iload_n 1, .imul, .iload_n 2, .iadd, .aload_n 0] = true := by decide +kernel
theorem d_c11_put_48 : decode cX11_put 48 = .ok (.getfield 25, 3) := by decide +kernel
theorem b_c11_put_51_1 : bdec cX11_put 51 [.iload_n 1] = true := by decide +kernel
theorem d_c11_put_52 : decode cX11_put 52 = .ok (.iaload, 1) := by decide +kernel
theorem d_c11_put_53 : decode cX11_put 53 = .ok (.ifCond .ne 8, 3) := by decide +kernel
theorem b_c11_put_61_1 : bdec cX11_put 61 [.aload_n 0] = true := by decide +kernel
theorem d_c11_put_62 : decode cX11_put 62 = .ok (.getfield 25, 3) := by decide +kernel
theorem b_c11_put_65_1 : bdec cX11_put 65 [.iload_n 1] = true := by decide +kernel
theorem d_c11_put_66 : decode cX11_put 66 = .ok (.iaload, 1) := by decide +kernel
theorem b_c11_put_67_1 : bdec cX11_put 67 [.iconst 1] = true := by decide +kernel
theorem d_c11_put_68 : decode cX11_put 68 = .ok (.if_icmp .ne 8, 3) := by decide +kernel
theorem b_c11_put_76_1 : bdec cX11_put 76 [.iload_n 3] = true := by decide +kernel
theorem d_c11_put_77 : decode cX11_put 77 = .ok (.iastore, 1) := by decide +kernel
theorem b_c11_put_78_1 : bdec cX11_put 78 [.iconst 0] = true := by decide +kernel
theorem d_c11_put_79 : decode cX11_put 79 = .ok (.ireturn, 1) := by decide +kernel
theorem b_c11_put_71_2 : bdec cX11_put 71 [.iload_n 3, .i2s] = true := by decide +kernel
theorem d_c11_put_73 : decode cX11_put 73 = .ok (.goto 4, 3) := by decide +kernel
theorem b_c11_put_56_2 : bdec cX11_put 56 [.iload_n 3, .i2b] = true := by decide +kernel
theorem d_c11_put_58 : decode cX11_put 58 = .ok (.goto 19, 3) := by decide +kernel
theorem b_c11_put_34_1 : bdec cX11_put 34 [.bipush (-13)] = true := by decide +kernel
theorem d_c11_put_36 : decode cX11_put 36 = .ok (.ireturn, 1) := by decide +kernel
theorem b_c11_put_13_1 : bdec cX11_put 13 [.iload 4] = true := by decide +kernel
theorem d_c11_put_15 : decode cX11_put 15 = .ok (.ireturn, 1) := by decide +kernel
def f11_put (s0 : HM) (a0 : Nat) (p1 : Int32) (p2 : Int32) (p3 : Int32) : Option (Int32 × HM) := ocl s0 a0 11 (obd (f11_wrongRow s0 a0 p1 (Int32.ofInt (-1))) (fun v2 => if v2 = 0 then (obd (hfld s0 [11] 6 a0) (fun v4 => orf v4 (fun b5 => obd (hald s0 b5 p1) (fun v6 => obd (f11_isIn p2.toInt64 (Int64.ofNat 0) ((v6 - (Int32.ofInt 1)).toInt64)) (fun v8 => if v8 = 0 then (some ((Int8.ofInt (-13)).toInt32, s0)) else (obd (hfld s0 [11] 7 a0) (fun v10 => obd (hfld s0 [11] 5 a0) (fun v11 => orf v11 (fun b12 => obd (hald s0 b12 p1) (fun v13 => if v13 = 0 then (orf v10 (fun b23 => obd (hast s0 b23 ((((Int8.ofInt 100).toInt32) * p1) + p2) p3.toInt8.toInt32) (fun s24 => some (Int32.ofInt 0, s24)))) else (obd (hfld s0 [11] 5 a0) (fun v15 => orf v15 (fun b16 => obd (hald s0 b16 p1) (fun v17 => if v17 = (Int32.ofInt 1) then (orf v10 (fun b21 => obd (hast s0 b21 ((((Int8.ofInt 100).toInt32) * p1) + p2) p3.toInt16.toInt32) (fun s22 => some (Int32.ofInt 0, s22)))) else (orf v10 (fun b19 => obd (hast s0 b19 ((((Int8.ofInt 100).toInt32) * p1) + p2) p3) (fun s20 => some (Int32.ofInt 0, s20)))))))))))))))))) else (some (v2, s0))))
set_option maxRecDepth 100000 in
set_option maxHeartbeats 4000000 in
theorem c11_put (l : Launch) (κ : KP) (A : Nat → Prop) (s0 : HM) (a0 : Nat) (p1 : Int32) (p2 : Int32) (p3 : Int32) {res : Int32 × HM} (hF : f11_put s0 a0 p1 p2 p3 = some res) : Met l yX11_put (Cond.code yX11_put cX11_put 5 (some .int) :: WT) (rmL 3 0 0) (PP κ A [.ref a0, .int p1, .int p2, .int p3] (HS κ A s0)) (QQ (some (.int res.1)) (HS κ A res.2) A) 0 0 A := by
  refine met_of (own := RX11) (by decide) rfl (Nat.le_of_ble_eq_true rfl) ?_
  intro Γ E hQ hL hR hA hent hini
  have hAA : ∀ q, A q → jA Γ q := fun q h => by rw [hA]; exact h
  have hroom : ∀ (d mL : Nat) {mc ms : Nat}, d < 3 → mL ≤ 21 → (rmL d mc ms).frames + 1 ≤ (jR Γ).frames ∧ 8 + (mL + 11) + (rmL d mc ms).locals ≤ (jR Γ).locals := fun d mL mc ms h1 h2 => by rw [hR]; exact rmL_le h1 h2
  show J Γ 5 (HS κ A s0) 0 0 0 [(0, .ref a0), (1, .int p1), (2, .int p2), (3, .int p3)] []
  unfold f11_put at hF
  refine j_blk (pc' := 3) (lv' := [(0, .ref a0), (1, .int p1), (2, .int p2), (3, .int p3)]) (st' := [.int (Int32.ofInt (-1)), .int p1, .ref a0]) E b_c11_put_0_3 rfl ?_
  replace hF := ocl_at hF
  obtain ⟨hc, hF⟩ := hF
  replace hF := obd_at hF
  obtain ⟨v2, he1, hF⟩ := hF
  refine j_callv [.int p1, .int (Int32.ofInt (-1))] [] E w_RX11_134 (hroom 2 3 (by decide) (by decide)) hAA (c11_wrongRow _ κ A _ _ _ _  he1) (fun _ h => h) (fun _ _ _ h _ _ => h) (fun _ h => j_recv E h hc rfl) rfl rfl (Nat.le_of_ble_eq_true rfl) d_c11_put_3 ⟨Nat.zero_le _, Nat.zero_le _⟩ ?_
  refine j_blk (pc' := 10) (lv' := [(4, .int v2), (0, .ref a0), (1, .int p1), (2, .int p2), (3, .int p3)]) (st' := [.int v2]) E b_c11_put_6_2 rfl ?_
  refine j_if_eq (tgt := 16) E d_c11_put_10 (by decide) (fun h3 => ?_) (fun h3 => ?_)
  · replace hF := g_t hF h3
    refine j_blk (pc' := 20) (lv' := [(4, .int v2), (0, .ref a0), (1, .int p1), (2, .int p2), (3, .int p3)]) (st' := [.ref a0, .long (Int64.ofNat 0), .long p2.toInt64]) E b_c11_put_16_4 rfl ?_
    replace hF := obd_at hF
    obtain ⟨v4, ev4, hF⟩ := hF
    refine j_getf E fg_RX11_28 d_c11_put_20 ev4 ?_
    refine j_blk (pc' := 24) (lv' := [(4, .int v2), (0, .ref a0), (1, .int p1), (2, .int p2), (3, .int p3)]) (st' := [.int p1, v4, .long (Int64.ofNat 0), .long p2.toInt64]) E b_c11_put_23_1 rfl ?_
    replace hF := orf_at hF
    obtain ⟨b5, rfl, hF⟩ := hF
    replace hF := obd_at hF
    obtain ⟨v6, ev6, hF⟩ := hF
    refine j_iald E d_c11_put_24 ev6 ?_
    refine j_blk (pc' := 28) (lv' := [(4, .int v2), (0, .ref a0), (1, .int p1), (2, .int p2), (3, .int p3)]) (st' := [.long ((v6 - (Int32.ofInt 1)).toInt64), .long (Int64.ofNat 0), .long p2.toInt64]) E b_c11_put_25_3 rfl ?_
    replace hF := obd_at hF
    obtain ⟨v8, he7, hF⟩ := hF
    refine j_calls [.long p2.toInt64, .long (Int64.ofNat 0), .long ((v6 - (Int32.ofInt 1)).toInt64)] [] E w_RX11_49 (hroom 0 6 (by decide) (by decide)) hAA (c11_isIn _ κ A (HS κ A s0) _ _ _  he7) (fun _ h => h) (fun _ _ _ h _ _ => h) rfl rfl (Nat.le_of_ble_eq_true rfl) d_c11_put_28 ⟨Nat.zero_le _, Nat.zero_le _⟩ ?_
    refine j_if_ne (tgt := 37) E d_c11_put_31 (by decide) (fun h9 => ?_) (fun h9 => ?_)
    · replace hF := g_f hF h9
      refine j_blk (pc' := 38) (lv' := [(4, .int v2), (0, .ref a0), (1, .int p1), (2, .int p2), (3, .int p3)]) (st' := [.ref a0]) E b_c11_put_37_1 rfl ?_
      replace hF := obd_at hF
      obtain ⟨v10, ev10, hF⟩ := hF
      refine j_getf E fg_RX11_31 d_c11_put_38 ev10 ?_
      refine j_blk (pc' := 48) (lv' := [(4, .int v2), (0, .ref a0), (1, .int p1), (2, .int p2), (3, .int p3)]) (st' := [.ref a0, .int ((((Int8.ofInt 100).toInt32) * p1) + p2), v10]) E b_c11_put_41_6 rfl ?_
      replace hF := obd_at hF
      obtain ⟨v11, ev11, hF⟩ := hF
      refine j_getf E fg_RX11_25 d_c11_put_48 ev11 ?_
      refine j_blk (pc' := 52) (lv' := [(4, .int v2), (0, .ref a0), (1, .int p1), (2, .int p2), (3, .int p3)]) (st' := [.int p1, v11, .int ((((Int8.ofInt 100).toInt32) * p1) + p2), v10]) E b_c11_put_51_1 rfl ?_
      replace hF := orf_at hF
      obtain ⟨b12, rfl, hF⟩ := hF
      replace hF := obd_at hF
      obtain ⟨v13, ev13, hF⟩ := hF
      refine j_iald E d_c11_put_52 ev13 ?_
      refine j_if_ne (tgt := 61) E d_c11_put_53 (by decide) (fun h14 => ?_) (fun h14 => ?_)
      · replace hF := g_f hF h14
        refine j_blk (pc' := 62) (lv' := [(4, .int v2), (0, .ref a0), (1, .int p1), (2, .int p2), (3, .int p3)]) (st' := [.ref a0, .int ((((Int8.ofInt 100).toInt32) * p1) + p2), v10]) E b_c11_put_61_1 rfl ?_
        replace hF := obd_at hF
        obtain ⟨v15, ev15, hF⟩ := hF
        refine j_getf E fg_RX11_25 d_c11_put_62 ev15 ?_
        refine j_blk (pc' := 66) (lv' := [(4, .int v2), (0, .ref a0), (1, .int p1), (2, .int p2), (3, .int p3)]) (st' := [.int p1, v15, .int ((((Int8.ofInt 100).toInt32) * p1) + p2), v10]) E b_c11_put_65_1 rfl ?_
        replace hF := orf_at hF
        obtain ⟨b16, rfl, hF⟩ := hF
        replace hF := obd_at hF
        obtain ⟨v17, ev17, hF⟩ := hF
        refine j_iald E d_c11_put_66 ev17 ?_
        refine j_blk (pc' := 68) (lv' := [(4, .int v2), (0, .ref a0), (1, .int p1), (2, .int p2), (3, .int p3)]) (st' := [.int (Int32.ofInt 1), .int v17, .int ((((Int8.ofInt 100).toInt32) * p1) + p2), v10]) E b_c11_put_67_1 rfl ?_
        refine j_icmp_ne (tgt := 76) E d_c11_put_68 (by decide) (fun h18 => ?_) (fun h18 => ?_)
        · replace hF := g_f hF h18
          refine j_blk (pc' := 77) (lv' := [(4, .int v2), (0, .ref a0), (1, .int p1), (2, .int p2), (3, .int p3)]) (st' := [.int p3, .int ((((Int8.ofInt 100).toInt32) * p1) + p2), v10]) E b_c11_put_76_1 rfl ?_
          replace hF := orf_at hF
          obtain ⟨b19, rfl, hF⟩ := hF
          replace hF := obd_at hF
          obtain ⟨s20, es20, hF⟩ := hF
          refine j_iast E d_c11_put_77 es20 hAA ?_
          refine j_blk (pc' := 79) (lv' := [(4, .int v2), (0, .ref a0), (1, .int p1), (2, .int p2), (3, .int p3)]) (st' := [.int (Int32.ofInt 0)]) E b_c11_put_78_1 rfl ?_
          have e : res = (Int32.ofInt 0, s20) := g_inj hF
          subst e
          exact j_iret E hQ d_c11_put_79 (fun _ h => h)
        · replace hF := g_t hF h18
          refine j_blk (pc' := 73) (lv' := [(4, .int v2), (0, .ref a0), (1, .int p1), (2, .int p2), (3, .int p3)]) (st' := [.int p3.toInt16.toInt32, .int ((((Int8.ofInt 100).toInt32) * p1) + p2), v10]) E b_c11_put_71_2 rfl ?_
          refine j_goto (tgt := 77) E d_c11_put_73 (by decide) ?_
          replace hF := orf_at hF
          obtain ⟨b21, rfl, hF⟩ := hF
          replace hF := obd_at hF
          obtain ⟨s22, es22, hF⟩ := hF
          refine j_iast E d_c11_put_77 es22 hAA ?_
          refine j_blk (pc' := 79) (lv' := [(4, .int v2), (0, .ref a0), (1, .int p1), (2, .int p2), (3, .int p3)]) (st' := [.int (Int32.ofInt 0)]) E b_c11_put_78_1 rfl ?_
          have e : res = (Int32.ofInt 0, s22) := g_inj hF
          subst e
          exact j_iret E hQ d_c11_put_79 (fun _ h => h)
      · replace hF := g_t hF h14
        refine j_blk (pc' := 58) (lv' := [(4, .int v2), (0, .ref a0), (1, .int p1), (2, .int p2), (3, .int p3)]) (st' := [.int p3.toInt8.toInt32, .int ((((Int8.ofInt 100).toInt32) * p1) + p2), v10]) E b_c11_put_56_2 rfl ?_
        refine j_goto (tgt := 77) E d_c11_put_58 (by decide) ?_
        replace hF := orf_at hF
        obtain ⟨b23, rfl, hF⟩ := hF
        replace hF := obd_at hF
        obtain ⟨s24, es24, hF⟩ := hF
        refine j_iast E d_c11_put_77 es24 hAA ?_
        refine j_blk (pc' := 79) (lv' := [(4, .int v2), (0, .ref a0), (1, .int p1), (2, .int p2), (3, .int p3)]) (st' := [.int (Int32.ofInt 0)]) E b_c11_put_78_1 rfl ?_
        have e : res = (Int32.ofInt 0, s24) := g_inj hF
        subst e
        exact j_iret E hQ d_c11_put_79 (fun _ h => h)
    · replace hF := g_t hF h9
      refine j_blk (pc' := 36) (lv' := [(4, .int v2), (0, .ref a0), (1, .int p1), (2, .int p2), (3, .int p3)]) (st' := [.int ((Int8.ofInt (-13)).toInt32)]) E b_c11_put_34_1 rfl ?_
      have e : res = ((Int8.ofInt (-13)).toInt32, s0) := g_inj hF
      subst e
      exact j_iret E hQ d_c11_put_36 (fun _ h => h)
  · replace hF := g_f hF h3
    refine j_blk (pc' := 15) (lv' := [(4, .int v2), (0, .ref a0), (1, .int p1), (2, .int p2), (3, .int p3)]) (st' := [.int v2]) E b_c11_put_13_1 rfl ?_
    have e : res = (v2, s0) := g_inj hF
    subst e
    exact j_iret E hQ d_c11_put_15 (fun _ h => h)
theorem b_c11_price_0_2 : bdec cX11_price 0 [.aload_n 0, .iload_n 1] = true := by decide +kernel
theorem d_c11_price_2 : decode cX11_price 2 = .ok (.invokevirtual 150, 3) := by decide +kernel
theorem b_c11_price_5_2 : bdec cX11_price 5 [.istore_n 2, .iload_n 2] = true := by decide +kernel
theorem d_c11_price_7 : decode cX11_price 7 = .ok (.ifCond .eq 7, 3) := by decide +kernel
theorem b_c11_price_14_1 : bdec cX11_price 14 [.aload_n 0] = true := by decide +kernel
theorem d_c11_price_15 : decode cX11_price 15 = .ok (.getfield 34, 3) := by decide +kernel
theorem b_c11_price_18_1 : bdec cX11_price 18 [.iload_n 1] = true := by decide +kernel
theorem d_c11_price_19 : decode cX11_price 19 = .ok (.iaload, 1) := by decide +kernel
theorem b_c11_price_20_1 : bdec cX11_price 20 [.aload_n 0] = true := by decide +kernel
theorem d_c11_price_21 : decode cX11_price 21 = .ok (.getfield 37, 3) := by decide +kernel
theorem b_c11_price_24_1 : bdec cX11_price 24 [.iload_n 1] = true := by decide +kernel
theorem d_c11_price_25 : decode cX11_price 25 = .ok (.iaload, 1) := by decide +kernel
theorem d_c11_price_26 : decode cX11_price 26 = .ok (.invokestatic 147, 3) := by decide +kernel
theorem d_c11_price_29 : decode cX11_price 29 = .ok (.ireturn, 1) := by decide +kernel
theorem b_c11_price_10_1 : bdec cX11_price 10 [.iload_n 2] = true := by decide +kernel
theorem d_c11_price_11 : decode cX11_price 11 = .ok (.goto 18, 3) := by decide +kernel
def f11_price (s0 : HM) (a0 : Nat) (p1 : Int32) : Option (Int32) := ocl s0 a0 11 (obd (f11_wrongKept s0 a0 p1) (fun v2 => if v2 = 0 then (obd (hfld s0 [11] 8 a0) (fun v4 => orf v4 (fun b5 => obd (hald s0 b5 p1) (fun v6 => obd (hfld s0 [11] 9 a0) (fun v7 => orf v7 (fun b8 => obd (hald s0 b8 p1) (fun v9 => obd (f11_priceBy v6 v9) (fun v11 => some v11)))))))) else (some v2)))
set_option maxRecDepth 100000 in
set_option maxHeartbeats 4000000 in
theorem c11_price (l : Launch) (κ : KP) (A : Nat → Prop) (s0 : HM) (a0 : Nat) (p1 : Int32) {res : Int32} (hF : f11_price s0 a0 p1 = some res) : Met l yX11_price (Cond.code yX11_price cX11_price 3 (some .int) :: WT) (rmL 3 0 0) (PP κ A [.ref a0, .int p1] (HS κ A s0)) (QQ (some (.int res)) (HS κ A s0) A) 0 0 A := by
  refine met_of (own := RX11) (by decide) rfl (Nat.le_of_ble_eq_true rfl) ?_
  intro Γ E hQ hL hR hA hent hini
  have hAA : ∀ q, A q → jA Γ q := fun q h => by rw [hA]; exact h
  have hroom : ∀ (d mL : Nat) {mc ms : Nat}, d < 3 → mL ≤ 21 → (rmL d mc ms).frames + 1 ≤ (jR Γ).frames ∧ 8 + (mL + 11) + (rmL d mc ms).locals ≤ (jR Γ).locals := fun d mL mc ms h1 h2 => by rw [hR]; exact rmL_le h1 h2
  show J Γ 3 (HS κ A s0) 0 0 0 [(0, .ref a0), (1, .int p1)] []
  unfold f11_price at hF
  refine j_blk (pc' := 2) (lv' := [(0, .ref a0), (1, .int p1)]) (st' := [.int p1, .ref a0]) E b_c11_price_0_2 rfl ?_
  replace hF := ocl_at hF
  obtain ⟨hc, hF⟩ := hF
  replace hF := obd_at hF
  obtain ⟨v2, he1, hF⟩ := hF
  refine j_callv [.int p1] [] E w_RX11_150 (hroom 2 2 (by decide) (by decide)) hAA (c11_wrongKept _ κ A _ _ _  he1) (fun _ h => h) (fun _ _ _ h _ _ => h) (fun _ h => j_recv E h hc rfl) rfl rfl (Nat.le_of_ble_eq_true rfl) d_c11_price_2 ⟨Nat.zero_le _, Nat.zero_le _⟩ ?_
  refine j_blk (pc' := 7) (lv' := [(2, .int v2), (0, .ref a0), (1, .int p1)]) (st' := [.int v2]) E b_c11_price_5_2 rfl ?_
  refine j_if_eq (tgt := 14) E d_c11_price_7 (by decide) (fun h3 => ?_) (fun h3 => ?_)
  · replace hF := g_t hF h3
    refine j_blk (pc' := 15) (lv' := [(2, .int v2), (0, .ref a0), (1, .int p1)]) (st' := [.ref a0]) E b_c11_price_14_1 rfl ?_
    replace hF := obd_at hF
    obtain ⟨v4, ev4, hF⟩ := hF
    refine j_getf E fg_RX11_34 d_c11_price_15 ev4 ?_
    refine j_blk (pc' := 19) (lv' := [(2, .int v2), (0, .ref a0), (1, .int p1)]) (st' := [.int p1, v4]) E b_c11_price_18_1 rfl ?_
    replace hF := orf_at hF
    obtain ⟨b5, rfl, hF⟩ := hF
    replace hF := obd_at hF
    obtain ⟨v6, ev6, hF⟩ := hF
    refine j_iald E d_c11_price_19 ev6 ?_
    refine j_blk (pc' := 21) (lv' := [(2, .int v2), (0, .ref a0), (1, .int p1)]) (st' := [.ref a0, .int v6]) E b_c11_price_20_1 rfl ?_
    replace hF := obd_at hF
    obtain ⟨v7, ev7, hF⟩ := hF
    refine j_getf E fg_RX11_37 d_c11_price_21 ev7 ?_
    refine j_blk (pc' := 25) (lv' := [(2, .int v2), (0, .ref a0), (1, .int p1)]) (st' := [.int p1, v7, .int v6]) E b_c11_price_24_1 rfl ?_
    replace hF := orf_at hF
    obtain ⟨b8, rfl, hF⟩ := hF
    replace hF := obd_at hF
    obtain ⟨v9, ev9, hF⟩ := hF
    refine j_iald E d_c11_price_25 ev9 ?_
    replace hF := obd_at hF
    obtain ⟨v11, he10, hF⟩ := hF
    refine j_calls [.int v6, .int v9] [] E w_RX11_147 (hroom 0 2 (by decide) (by decide)) hAA (c11_priceBy _ κ A (HS κ A s0) _ _  he10) (fun _ h => h) (fun _ _ _ h _ _ => h) rfl rfl (Nat.le_of_ble_eq_true rfl) d_c11_price_26 ⟨Nat.zero_le _, Nat.zero_le _⟩ ?_
    have e : res = v11 := g_inj hF
    subst e
    exact j_iret E hQ d_c11_price_29 (fun _ h => h)
  · replace hF := g_f hF h3
    refine j_blk (pc' := 11) (lv' := [(2, .int v2), (0, .ref a0), (1, .int p1)]) (st' := [.int v2]) E b_c11_price_10_1 rfl ?_
    refine j_goto (tgt := 29) E d_c11_price_11 (by decide) ?_
    have e : res = v2 := g_inj hF
    subst e
    exact j_iret E hQ d_c11_price_29 (fun _ h => h)
theorem b_c11_toss_0_2 : bdec cX11_toss 0 [.aload_n 0, .iload_n 1] = true := by decide +kernel
theorem d_c11_toss_2 : decode cX11_toss 2 = .ok (.invokevirtual 150, 3) := by decide +kernel
theorem b_c11_toss_5_2 : bdec cX11_toss 5 [.istore_n 2, .iload_n 2] = true := by decide +kernel
theorem d_c11_toss_7 : decode cX11_toss 7 = .ok (.ifCond .eq 5, 3) := by decide +kernel
theorem b_c11_toss_12_1 : bdec cX11_toss 12 [.aload_n 0] = true := by decide +kernel
theorem d_c11_toss_13 : decode cX11_toss 13 = .ok (.getfield 34, 3) := by decide +kernel
theorem b_c11_toss_16_1 : bdec cX11_toss 16 [.iload_n 1] = true := by decide +kernel
theorem d_c11_toss_17 : decode cX11_toss 17 = .ok (.iaload, 1) := by decide +kernel
theorem b_c11_toss_18_2 : bdec cX11_toss 18 [.istore_n 3, .aload_n 0] = true := by decide +kernel
theorem d_c11_toss_20 : decode cX11_toss 20 = .ok (.getfield 37, 3) := by decide +kernel
theorem b_c11_toss_23_1 : bdec cX11_toss 23 [.iload_n 1] = true := by decide +kernel
theorem d_c11_toss_24 : decode cX11_toss 24 = .ok (.iaload, 1) := by decide +kernel
theorem b_c11_toss_25_3 : bdec cX11_toss 25 [.istore 4, .iload_n 3, .iconst 2] = true := by decide +kernel
theorem d_c11_toss_29 : decode cX11_toss 29 = .ok (.if_icmp .eq 8, 3) := by decide +kernel
theorem b_c11_toss_37_1 : bdec cX11_toss 37 [.bipush (-15)] = true := by decide +kernel
theorem d_c11_toss_39 : decode cX11_toss 39 = .ok (.goto 37, 3) := by decide +kernel
theorem d_c11_toss_76 : decode cX11_toss 76 = .ok (.ireturn, 1) := by decide +kernel
theorem b_c11_toss_32_1 : bdec cX11_toss 32 [.iload 4] = true := by decide +kernel
theorem d_c11_toss_34 : decode cX11_toss 34 = .ok (.ifCond .ne 8, 3) := by decide +kernel
theorem b_c11_toss_42_2 : bdec cX11_toss 42 [.iload_n 3, .iconst 5] = true := by decide +kernel
theorem d_c11_toss_44 : decode cX11_toss 44 = .ok (.if_icmp .ne 11, 3) := by decide +kernel
theorem b_c11_toss_55_2 : bdec cX11_toss 55 [.iload_n 3, .bipush 6] = true := by decide +kernel
theorem d_c11_toss_58 : decode cX11_toss 58 = .ok (.if_icmp .ne 16, 3) := by decide +kernel
theorem b_c11_toss_74_1 : bdec cX11_toss 74 [.iload 4] = true := by decide +kernel
theorem b_c11_toss_61_3 : bdec cX11_toss 61 [.sipush 200, .iload_n 3, .iload 4] = true := by decide +kernel
theorem d_c11_toss_67 : decode cX11_toss 67 = .ok (.invokestatic 147, 3) := by decide +kernel
theorem b_c11_toss_70_1 : bdec cX11_toss 70 [.iadd] = true := by decide +kernel
theorem d_c11_toss_71 : decode cX11_toss 71 = .ok (.goto 5, 3) := by decide +kernel
theorem b_c11_toss_47_3 : bdec cX11_toss 47 [.bipush 100, .iload 4, .iadd] = true := by decide +kernel
theorem d_c11_toss_52 : decode cX11_toss 52 = .ok (.goto 24, 3) := by decide +kernel
theorem b_c11_toss_10_1 : bdec cX11_toss 10 [.iload_n 2] = true := by decide +kernel
theorem d_c11_toss_11 : decode cX11_toss 11 = .ok (.ireturn, 1) := by decide +kernel
def f11_toss (s0 : HM) (a0 : Nat) (p1 : Int32) : Option (Int32) := ocl s0 a0 11 (obd (f11_wrongKept s0 a0 p1) (fun v2 => if v2 = 0 then (obd (hfld s0 [11] 8 a0) (fun v4 => orf v4 (fun b5 => obd (hald s0 b5 p1) (fun v6 => obd (hfld s0 [11] 9 a0) (fun v7 => orf v7 (fun b8 => obd (hald s0 b8 p1) (fun v9 => if v6 = (Int32.ofInt 2) then (some ((Int8.ofInt (-15)).toInt32)) else (if v9 = 0 then (some ((Int8.ofInt (-15)).toInt32)) else (if v6 = (Int32.ofInt 5) then (some (((Int8.ofInt 100).toInt32) + v9)) else (if v6 = ((Int8.ofInt 6).toInt32) then (obd (f11_priceBy v6 v9) (fun v15 => some (((Int16.ofInt 200).toInt32) + v15))) else (some v9))))))))))) else (some v2)))
set_option maxRecDepth 100000 in
set_option maxHeartbeats 4000000 in
theorem c11_toss (l : Launch) (κ : KP) (A : Nat → Prop) (s0 : HM) (a0 : Nat) (p1 : Int32) {res : Int32} (hF : f11_toss s0 a0 p1 = some res) : Met l yX11_toss (Cond.code yX11_toss cX11_toss 5 (some .int) :: WT) (rmL 3 0 0) (PP κ A [.ref a0, .int p1] (HS κ A s0)) (QQ (some (.int res)) (HS κ A s0) A) 0 0 A := by
  refine met_of (own := RX11) (by decide) rfl (Nat.le_of_ble_eq_true rfl) ?_
  intro Γ E hQ hL hR hA hent hini
  have hAA : ∀ q, A q → jA Γ q := fun q h => by rw [hA]; exact h
  have hroom : ∀ (d mL : Nat) {mc ms : Nat}, d < 3 → mL ≤ 21 → (rmL d mc ms).frames + 1 ≤ (jR Γ).frames ∧ 8 + (mL + 11) + (rmL d mc ms).locals ≤ (jR Γ).locals := fun d mL mc ms h1 h2 => by rw [hR]; exact rmL_le h1 h2
  show J Γ 5 (HS κ A s0) 0 0 0 [(0, .ref a0), (1, .int p1)] []
  unfold f11_toss at hF
  refine j_blk (pc' := 2) (lv' := [(0, .ref a0), (1, .int p1)]) (st' := [.int p1, .ref a0]) E b_c11_toss_0_2 rfl ?_
  replace hF := ocl_at hF
  obtain ⟨hc, hF⟩ := hF
  replace hF := obd_at hF
  obtain ⟨v2, he1, hF⟩ := hF
  refine j_callv [.int p1] [] E w_RX11_150 (hroom 2 2 (by decide) (by decide)) hAA (c11_wrongKept _ κ A _ _ _  he1) (fun _ h => h) (fun _ _ _ h _ _ => h) (fun _ h => j_recv E h hc rfl) rfl rfl (Nat.le_of_ble_eq_true rfl) d_c11_toss_2 ⟨Nat.zero_le _, Nat.zero_le _⟩ ?_
  refine j_blk (pc' := 7) (lv' := [(2, .int v2), (0, .ref a0), (1, .int p1)]) (st' := [.int v2]) E b_c11_toss_5_2 rfl ?_
  refine j_if_eq (tgt := 12) E d_c11_toss_7 (by decide) (fun h3 => ?_) (fun h3 => ?_)
  · replace hF := g_t hF h3
    refine j_blk (pc' := 13) (lv' := [(2, .int v2), (0, .ref a0), (1, .int p1)]) (st' := [.ref a0]) E b_c11_toss_12_1 rfl ?_
    replace hF := obd_at hF
    obtain ⟨v4, ev4, hF⟩ := hF
    refine j_getf E fg_RX11_34 d_c11_toss_13 ev4 ?_
    refine j_blk (pc' := 17) (lv' := [(2, .int v2), (0, .ref a0), (1, .int p1)]) (st' := [.int p1, v4]) E b_c11_toss_16_1 rfl ?_
    replace hF := orf_at hF
    obtain ⟨b5, rfl, hF⟩ := hF
    replace hF := obd_at hF
    obtain ⟨v6, ev6, hF⟩ := hF
    refine j_iald E d_c11_toss_17 ev6 ?_
    refine j_blk (pc' := 20) (lv' := [(3, .int v6), (2, .int v2), (0, .ref a0), (1, .int p1)]) (st' := [.ref a0]) E b_c11_toss_18_2 rfl ?_
    replace hF := obd_at hF
    obtain ⟨v7, ev7, hF⟩ := hF
    refine j_getf E fg_RX11_37 d_c11_toss_20 ev7 ?_
    refine j_blk (pc' := 24) (lv' := [(3, .int v6), (2, .int v2), (0, .ref a0), (1, .int p1)]) (st' := [.int p1, v7]) E b_c11_toss_23_1 rfl ?_
    replace hF := orf_at hF
    obtain ⟨b8, rfl, hF⟩ := hF
    replace hF := obd_at hF
    obtain ⟨v9, ev9, hF⟩ := hF
    refine j_iald E d_c11_toss_24 ev9 ?_
    refine j_blk (pc' := 29) (lv' := [(4, .int v9), (3, .int v6), (2, .int v2), (0, .ref a0), (1, .int p1)]) (st' := [.int (Int32.ofInt 2), .int v6]) E b_c11_toss_25_3 rfl ?_
    refine j_icmp_eq (tgt := 37) E d_c11_toss_29 (by decide) (fun h10 => ?_) (fun h10 => ?_)
    · replace hF := g_t hF h10
      refine j_blk (pc' := 39) (lv' := [(4, .int v9), (3, .int v6), (2, .int v2), (0, .ref a0), (1, .int p1)]) (st' := [.int ((Int8.ofInt (-15)).toInt32)]) E b_c11_toss_37_1 rfl ?_
      refine j_goto (tgt := 76) E d_c11_toss_39 (by decide) ?_
      have e : res = (Int8.ofInt (-15)).toInt32 := g_inj hF
      subst e
      exact j_iret E hQ d_c11_toss_76 (fun _ h => h)
    · replace hF := g_f hF h10
      refine j_blk (pc' := 34) (lv' := [(4, .int v9), (3, .int v6), (2, .int v2), (0, .ref a0), (1, .int p1)]) (st' := [.int v9]) E b_c11_toss_32_1 rfl ?_
      refine j_if_ne (tgt := 42) E d_c11_toss_34 (by decide) (fun h11 => ?_) (fun h11 => ?_)
      · replace hF := g_f hF h11
        refine j_blk (pc' := 44) (lv' := [(4, .int v9), (3, .int v6), (2, .int v2), (0, .ref a0), (1, .int p1)]) (st' := [.int (Int32.ofInt 5), .int v6]) E b_c11_toss_42_2 rfl ?_
        refine j_icmp_ne (tgt := 55) E d_c11_toss_44 (by decide) (fun h12 => ?_) (fun h12 => ?_)
        · replace hF := g_f hF h12
          refine j_blk (pc' := 58) (lv' := [(4, .int v9), (3, .int v6), (2, .int v2), (0, .ref a0), (1, .int p1)]) (st' := [.int ((Int8.ofInt 6).toInt32), .int v6]) E b_c11_toss_55_2 rfl ?_
          refine j_icmp_ne (tgt := 74) E d_c11_toss_58 (by decide) (fun h13 => ?_) (fun h13 => ?_)
          · replace hF := g_f hF h13
            refine j_blk (pc' := 76) (lv' := [(4, .int v9), (3, .int v6), (2, .int v2), (0, .ref a0), (1, .int p1)]) (st' := [.int v9]) E b_c11_toss_74_1 rfl ?_
            have e : res = v9 := g_inj hF
            subst e
            exact j_iret E hQ d_c11_toss_76 (fun _ h => h)
          · replace hF := g_t hF h13
            refine j_blk (pc' := 67) (lv' := [(4, .int v9), (3, .int v6), (2, .int v2), (0, .ref a0), (1, .int p1)]) (st' := [.int v9, .int v6, .int ((Int16.ofInt 200).toInt32)]) E b_c11_toss_61_3 rfl ?_
            replace hF := obd_at hF
            obtain ⟨v15, he14, hF⟩ := hF
            refine j_calls [.int v6, .int v9] [.int ((Int16.ofInt 200).toInt32)] E w_RX11_147 (hroom 0 2 (by decide) (by decide)) hAA (c11_priceBy _ κ A (HS κ A s0) _ _  he14) (fun _ h => h) (fun _ _ _ h _ _ => h) rfl rfl (Nat.le_of_ble_eq_true rfl) d_c11_toss_67 ⟨Nat.zero_le _, Nat.zero_le _⟩ ?_
            refine j_blk (pc' := 71) (lv' := [(4, .int v9), (3, .int v6), (2, .int v2), (0, .ref a0), (1, .int p1)]) (st' := [.int (((Int16.ofInt 200).toInt32) + v15)]) E b_c11_toss_70_1 rfl ?_
            refine j_goto (tgt := 76) E d_c11_toss_71 (by decide) ?_
            have e : res = ((Int16.ofInt 200).toInt32) + v15 := g_inj hF
            subst e
            exact j_iret E hQ d_c11_toss_76 (fun _ h => h)
        · replace hF := g_t hF h12
          refine j_blk (pc' := 52) (lv' := [(4, .int v9), (3, .int v6), (2, .int v2), (0, .ref a0), (1, .int p1)]) (st' := [.int (((Int8.ofInt 100).toInt32) + v9)]) E b_c11_toss_47_3 rfl ?_
          refine j_goto (tgt := 76) E d_c11_toss_52 (by decide) ?_
          have e : res = ((Int8.ofInt 100).toInt32) + v9 := g_inj hF
          subst e
          exact j_iret E hQ d_c11_toss_76 (fun _ h => h)
      · replace hF := g_t hF h11
        refine j_blk (pc' := 39) (lv' := [(4, .int v9), (3, .int v6), (2, .int v2), (0, .ref a0), (1, .int p1)]) (st' := [.int ((Int8.ofInt (-15)).toInt32)]) E b_c11_toss_37_1 rfl ?_
        refine j_goto (tgt := 76) E d_c11_toss_39 (by decide) ?_
        have e : res = (Int8.ofInt (-15)).toInt32 := g_inj hF
        subst e
        exact j_iret E hQ d_c11_toss_76 (fun _ h => h)
  · replace hF := g_f hF h3
    refine j_blk (pc' := 11) (lv' := [(2, .int v2), (0, .ref a0), (1, .int p1)]) (st' := [.int v2]) E b_c11_toss_10_1 rfl ?_
    have e : res = v2 := g_inj hF
    subst e
    exact j_iret E hQ d_c11_toss_11 (fun _ h => h)
theorem b_c11_league_0_3 : bdec cX11_league 0 [.aload_n 0, .iload_n 1, .iconst 0] = true := by decide +kernel
theorem d_c11_league_3 : decode cX11_league 3 = .ok (.invokevirtual 134, 3) := by decide +kernel
theorem b_c11_league_6_2 : bdec cX11_league 6 [.istore_n 2, .iload_n 2] = true := by decide +kernel
theorem d_c11_league_8 : decode cX11_league 8 = .ok (.ifCond .eq 5, 3) := by decide +kernel
theorem b_c11_league_13_4 : bdec cX11_league 13 [.aload_n 0, .bipush 100, .iload_n 1, .imul] = true := by decide +kernel
theorem d_c11_league_18 : decode cX11_league 18 = .ok (.putfield 100, 3) := by decide +kernel
theorem b_c11_league_21_2 : bdec cX11_league 21 [.aload_n 0, .aload_n 0] = true := by decide +kernel
theorem d_c11_league_23 : decode cX11_league 23 = .ok (.getfield 28, 3) := by decide +kernel
theorem b_c11_league_26_1 : bdec cX11_league 26 [.iload_n 1] = true := by decide +kernel
theorem d_c11_league_27 : decode cX11_league 27 = .ok (.iaload, 1) := by decide +kernel
theorem d_c11_league_28 : decode cX11_league 28 = .ok (.putfield 97, 3) := by decide +kernel
theorem b_c11_league_31_2 : bdec cX11_league 31 [.aload_n 0, .iconst 0] = true := by decide +kernel
theorem d_c11_league_33 : decode cX11_league 33 = .ok (.putfield 94, 3) := by decide +kernel
theorem b_c11_league_36_2 : bdec cX11_league 36 [.iconst 0, .istore_n 3] = true := by decide +kernel
theorem b_c11_league_38_1 : bdec cX11_league 38 [.aload_n 0] = true := by decide +kernel
theorem d_c11_league_39 : decode cX11_league 39 = .ok (.invokevirtual 137, 3) := by decide +kernel
theorem d_c11_league_42 : decode cX11_league 42 = .ok (.ifCond .ne 12, 3) := by decide +kernel
theorem b_c11_league_54_2 : bdec cX11_league 54 [.iinc 3 1, .aload_n 0] = true := by decide +kernel
theorem d_c11_league_58 : decode cX11_league 58 = .ok (.getfield 94, 3) := by decide +kernel
theorem b_c11_league_61_1 : bdec cX11_league 61 [.aload_n 0] = true := by decide +kernel
theorem d_c11_league_62 : decode cX11_league 62 = .ok (.getfield 97, 3) := by decide +kernel
theorem d_c11_league_65 : decode cX11_league 65 = .ok (.if_icmp .lt (-27), 3) := by decide +kernel
theorem b_c11_league_45_2 : bdec cX11_league 45 [.sipush (-1000), .aload_n 0] = true := by decide +kernel
theorem d_c11_league_49 : decode cX11_league 49 = .ok (.getfield 94, 3) := by decide +kernel
theorem b_c11_league_52_1 : bdec cX11_league 52 [.isub] = true := by decide +kernel
theorem d_c11_league_53 : decode cX11_league 53 = .ok (.ireturn, 1) := by decide +kernel
theorem b_c11_league_68_1 : bdec cX11_league 68 [.aload_n 0] = true := by decide +kernel
theorem d_c11_league_69 : decode cX11_league 69 = .ok (.getfield 9, 3) := by decide +kernel
theorem b_c11_league_72_1 : bdec cX11_league 72 [.aload_n 0] = true := by decide +kernel
theorem d_c11_league_73 : decode cX11_league 73 = .ok (.getfield 16, 3) := by decide +kernel
theorem d_c11_league_76 : decode cX11_league 76 = .ok (.invokestatic 59, 3) := by decide +kernel
theorem b_c11_league_79_2 : bdec cX11_league 79 [.aload_n 0, .iconst 0] = true := by decide +kernel
theorem d_c11_league_81 : decode cX11_league 81 = .ok (.putfield 94, 3) := by decide +kernel
theorem b_c11_league_84_1 : bdec cX11_league 84 [.aload_n 0] = true := by decide +kernel
theorem d_c11_league_85 : decode cX11_league 85 = .ok (.getfield 94, 3) := by decide +kernel
theorem b_c11_league_88_1 : bdec cX11_league 88 [.aload_n 0] = true := by decide +kernel
theorem d_c11_league_89 : decode cX11_league 89 = .ok (.getfield 97, 3) := by decide +kernel
theorem d_c11_league_92 : decode cX11_league 92 = .ok (.if_icmp .ge 51, 3) := by decide +kernel
theorem b_c11_league_95_1 : bdec cX11_league 95 [.aload_n 0] = true := by decide +kernel
theorem d_c11_league_96 : decode cX11_league 96 = .ok (.getfield 94, 3) := by decide +kernel
theorem b_c11_league_99_2 : bdec cX11_league 99 [.istore 4, .aload_n 0] = true := by decide +kernel
theorem d_c11_league_102 : decode cX11_league 102 = .ok (.invokevirtual 103, 3) := by decide +kernel
theorem b_c11_league_105_2 : bdec cX11_league 105 [.istore 5, .aload_n 0] = true := by decide +kernel
theorem d_c11_league_108 : decode cX11_league 108 = .ok (.invokevirtual 137, 3) := by decide +kernel
theorem b_c11_league_111_3 : bdec cX11_league 111 [.istore 6, .aload_n 0, .iload 5] = true := by decide +kernel
theorem d_c11_league_116 : decode cX11_league 116 = .ok (.invokevirtual 141, 3) := by decide +kernel
theorem d_c11_league_119 : decode cX11_league 119 = .ok (.ifCond .ne 21, 3) := by decide +kernel
theorem d_c11_league_140 : decode cX11_league 140 = .ok (.goto (-56), 3) := by decide +kernel
theorem b_c11_league_122_1 : bdec cX11_league 122 [.aload_n 0] = true := by decide +kernel
theorem d_c11_league_123 : decode cX11_league 123 = .ok (.getfield 16, 3) := by decide +kernel
theorem b_c11_league_126_1 : bdec cX11_league 126 [.aload_n 0] = true := by decide +kernel
theorem d_c11_league_127 : decode cX11_league 127 = .ok (.getfield 9, 3) := by decide +kernel
theorem d_c11_league_130 : decode cX11_league 130 = .ok (.invokestatic 59, 3) := by decide +kernel
theorem b_c11_league_133_3 : bdec cX11_league 133 [.sipush (-2000), .iload 4, .isub] = true := by decide +kernel
theorem d_c11_league_139 : decode cX11_league 139 = .ok (.ireturn, 1) := by decide +kernel
theorem b_c11_league_143_1 : bdec cX11_league 143 [.iload_n 3] = true := by decide +kernel
theorem d_c11_league_144 : decode cX11_league 144 = .ok (.ireturn, 1) := by decide +kernel
theorem b_c11_league_11_1 : bdec cX11_league 11 [.iload_n 2] = true := by decide +kernel
theorem d_c11_league_12 : decode cX11_league 12 = .ok (.ireturn, 1) := by decide +kernel
def f11_league_L38 (a0 : Nat) (w : Int32 × HM) : Option ((Int32 × HM) ⊕ ((Int32 × HM) ⊕ (Int32 × HM))) := match w with
  | (x38_3, s38) => ocl s38 a0 11 (obd (f11_readsStatement s38 a0) (fun e11 => match e11 with | (v13, s12) => if v13 = 0 then (obd (hfi s12 [11] 12 a0) (fun v18 => some (.inr (.inl (((Int16.ofInt (-1000)).toInt32) - v18, s12))))) else (obd (hfi s12 [11] 12 a0) (fun v15 => obd (hfi s12 [11] 14 a0) (fun v16 => if v15 < v16 then (some (.inl (x38_3 + Int32.ofInt 1, s12))) else (some (.inr (.inr (x38_3 + Int32.ofInt 1, s12)))))))))
def f11_league_L84 (a0 : Nat) (e38_3 : Int32) (w : HM) : Option ((HM) ⊕ ((Int32 × HM) ⊕ (HM))) := match w with
  | s84 => obd (hfi s84 [11] 12 a0) (fun v27 => obd (hfi s84 [11] 14 a0) (fun v28 => if v28 ≤ v27 then (some (.inr (.inr s84))) else (obd (hfi s84 [11] 12 a0) (fun v30 => ocl s84 a0 11 (obd (f11_here s84 a0) (fun v32 => ocl s84 a0 11 (obd (f11_readsStatement s84 a0) (fun e33 => match e33 with | (v35, s34) => ocl s34 a0 11 (obd (f11_comesTold s34 a0 v32) (fun e36 => match e36 with | (v38, s37) => if v38 = 0 then (obd (hfld s37 [11] 2 a0) (fun v40 => obd (hfld s37 [11] 0 a0) (fun v41 => orf v41 (fun b42 => orf v40 (fun b43 => obd (f11_lays s37 b43 b42) (fun s45 => some (.inr (.inl (((Int16.ofInt (-2000)).toInt32) - v30, s45))))))))) else (some (.inl s37))))))))))))
def f11_league (s0 : HM) (a0 : Nat) (p1 : Int32) : Option (Int32 × HM) := ocl s0 a0 11 (obd (f11_wrongRow s0 a0 p1 (Int32.ofInt 0)) (fun v2 => if v2 = 0 then (obd (hput s0 [11] 13 a0 (.int (((Int8.ofInt 100).toInt32) * p1))) (fun s4 => obd (hfld s4 [11] 6 a0) (fun v5 => orf v5 (fun b6 => obd (hald s4 b6 p1) (fun v7 => obd (hput s4 [11] 14 a0 (.int v7)) (fun s8 => obd (hput s8 [11] 12 a0 (.int (Int32.ofInt 0))) (fun s9 => obd (iter (f11_league_L38 a0) FU (Int32.ofInt 0, s9)) (fun o10 => osm o10 (fun o10 => some o10) (fun o10 => match o10 with | (e38_3, t38) => obd (hfld t38 [11] 0 a0) (fun v19 => obd (hfld t38 [11] 2 a0) (fun v20 => orf v20 (fun b21 => orf v19 (fun b22 => obd (f11_lays t38 b22 b21) (fun s24 => obd (hput s24 [11] 12 a0 (.int (Int32.ofInt 0))) (fun s25 => obd (iter (f11_league_L84 a0 e38_3) FU s25) (fun o26 => osm o26 (fun o26 => some o26) (fun o26 => match o26 with | t84 => some (e38_3, t84)))))))))))))))))) else (some (v2, s0))))
set_option maxRecDepth 100000 in
set_option maxHeartbeats 4000000 in
theorem c11_league (l : Launch) (κ : KP) (A : Nat → Prop) (s0 : HM) (a0 : Nat) (p1 : Int32) {res : Int32 × HM} (hF : f11_league s0 a0 p1 = some res) : Met l yX11_league (Cond.code yX11_league cX11_league 7 (some .int) :: WT) (rmL 4 0 0) (PP κ A [.ref a0, .int p1] (HS κ A s0)) (QQ (some (.int res.1)) (HS κ A res.2) A) 0 0 A := by
  refine met_of (own := RX11) (by decide) rfl (Nat.le_of_ble_eq_true rfl) ?_
  intro Γ E hQ hL hR hA hent hini
  have hAA : ∀ q, A q → jA Γ q := fun q h => by rw [hA]; exact h
  have hroom : ∀ (d mL : Nat) {mc ms : Nat}, d < 4 → mL ≤ 21 → (rmL d mc ms).frames + 1 ≤ (jR Γ).frames ∧ 8 + (mL + 11) + (rmL d mc ms).locals ≤ (jR Γ).locals := fun d mL mc ms h1 h2 => by rw [hR]; exact rmL_le h1 h2
  show J Γ 7 (HS κ A s0) 0 0 0 [(0, .ref a0), (1, .int p1)] []
  unfold f11_league at hF
  refine j_blk (pc' := 3) (lv' := [(0, .ref a0), (1, .int p1)]) (st' := [.int (Int32.ofInt 0), .int p1, .ref a0]) E b_c11_league_0_3 rfl ?_
  replace hF := ocl_at hF
  obtain ⟨hc, hF⟩ := hF
  replace hF := obd_at hF
  obtain ⟨v2, he1, hF⟩ := hF
  refine j_callv [.int p1, .int (Int32.ofInt 0)] [] E w_RX11_134 (hroom 2 3 (by decide) (by decide)) hAA (c11_wrongRow _ κ A _ _ _ _  he1) (fun _ h => h) (fun _ _ _ h _ _ => h) (fun _ h => j_recv E h hc rfl) rfl rfl (Nat.le_of_ble_eq_true rfl) d_c11_league_3 ⟨Nat.zero_le _, Nat.zero_le _⟩ ?_
  refine j_blk (pc' := 8) (lv' := [(2, .int v2), (0, .ref a0), (1, .int p1)]) (st' := [.int v2]) E b_c11_league_6_2 rfl ?_
  refine j_if_eq (tgt := 13) E d_c11_league_8 (by decide) (fun h3 => ?_) (fun h3 => ?_)
  · replace hF := g_t hF h3
    refine j_blk (pc' := 18) (lv' := [(2, .int v2), (0, .ref a0), (1, .int p1)]) (st' := [.int (((Int8.ofInt 100).toInt32) * p1), .ref a0]) E b_c11_league_13_4 rfl ?_
    replace hF := obd_at hF
    obtain ⟨s4, es4, hF⟩ := hF
    refine j_put E fp_RX11_100 d_c11_league_18 rfl rfl es4 hAA ?_
    refine j_blk (pc' := 23) (lv' := [(2, .int v2), (0, .ref a0), (1, .int p1)]) (st' := [.ref a0, .ref a0]) E b_c11_league_21_2 rfl ?_
    replace hF := obd_at hF
    obtain ⟨v5, ev5, hF⟩ := hF
    refine j_getf E fg_RX11_28 d_c11_league_23 ev5 ?_
    refine j_blk (pc' := 27) (lv' := [(2, .int v2), (0, .ref a0), (1, .int p1)]) (st' := [.int p1, v5, .ref a0]) E b_c11_league_26_1 rfl ?_
    replace hF := orf_at hF
    obtain ⟨b6, rfl, hF⟩ := hF
    replace hF := obd_at hF
    obtain ⟨v7, ev7, hF⟩ := hF
    refine j_iald E d_c11_league_27 ev7 ?_
    replace hF := obd_at hF
    obtain ⟨s8, es8, hF⟩ := hF
    refine j_put E fp_RX11_97 d_c11_league_28 rfl rfl es8 hAA ?_
    refine j_blk (pc' := 33) (lv' := [(2, .int v2), (0, .ref a0), (1, .int p1)]) (st' := [.int (Int32.ofInt 0), .ref a0]) E b_c11_league_31_2 rfl ?_
    replace hF := obd_at hF
    obtain ⟨s9, es9, hF⟩ := hF
    refine j_put E fp_RX11_94 d_c11_league_33 rfl rfl es9 hAA ?_
    refine j_blk (pc' := 38) (lv' := [(3, .int (Int32.ofInt 0)), (2, .int v2), (0, .ref a0), (1, .int p1)]) (st' := []) E b_c11_league_36_2 rfl ?_
    refine j_lv [2, 0] rfl ?_
    replace hF := obd_at hF
    obtain ⟨o10, ho10, hF⟩ := hF
    have lpo10 : ∀ (fu : Nat) (w : Int32 × HM) (o : (Int32 × HM) ⊕ (Int32 × HM)), iter (f11_league_L38 a0) fu w = some o → (fun (o : (Int32 × HM) ⊕ (Int32 × HM)) => match o with | .inl r => r = res | .inr o => J Γ 7 (HS κ A o.2) 0 0 68 [(0, .ref a0), (3, .int o.1)] []) o → (fun (w : Int32 × HM) => J Γ 7 (HS κ A w.2) 0 0 38 [(0, .ref a0), (3, .int w.1)] []) w := by
      refine j_iter (P := fun (w : Int32 × HM) => J Γ 7 (HS κ A w.2) 0 0 38 [(0, .ref a0), (3, .int w.1)] []) (G := fun (o : (Int32 × HM) ⊕ (Int32 × HM)) => match o with | .inl r => r = res | .inr o => J Γ 7 (HS κ A o.2) 0 0 68 [(0, .ref a0), (3, .int o.1)] []) ?_
      rintro ⟨x38_3, s38⟩ q hF hI hO
      show J Γ 7 (HS κ A s38) 0 0 38 [(0, .ref a0), (3, .int x38_3)] []
      unfold f11_league_L38 at hF
      refine j_blk (pc' := 39) (lv' := [(0, .ref a0), (3, .int x38_3)]) (st' := [.ref a0]) E b_c11_league_38_1 rfl ?_
      replace hF := ocl_at hF
      obtain ⟨hc, hF⟩ := hF
      replace hF := obd_at hF
      obtain ⟨⟨v13, s12⟩, he11, hF⟩ := hF
      refine j_callv [] [] E w_RX11_137 (hroom 2 3 (by decide) (by decide)) hAA (c11_readsStatement _ κ A _ _  he11) (fun _ h => h) (fun _ _ _ h _ _ => h) (fun _ h => j_recv E h hc rfl) rfl rfl (Nat.le_of_ble_eq_true rfl) d_c11_league_39 ⟨Nat.zero_le _, Nat.zero_le _⟩ ?_
      refine j_if_ne (tgt := 54) E d_c11_league_42 (by decide) (fun h14 => ?_) (fun h14 => ?_)
      · replace hF := g_f hF h14
        refine j_blk (pc' := 58) (lv' := [(3, .int (x38_3 + Int32.ofInt 1)), (0, .ref a0)]) (st' := [.ref a0]) E b_c11_league_54_2 rfl ?_
        replace hF := obd_at hF
        obtain ⟨v15, ev15, hF⟩ := hF
        refine j_getI E fg_RX11_94 d_c11_league_58 ev15 ?_
        refine j_blk (pc' := 62) (lv' := [(3, .int (x38_3 + Int32.ofInt 1)), (0, .ref a0)]) (st' := [.ref a0, .int v15]) E b_c11_league_61_1 rfl ?_
        replace hF := obd_at hF
        obtain ⟨v16, ev16, hF⟩ := hF
        refine j_getI E fg_RX11_97 d_c11_league_62 ev16 ?_
        refine j_icmp_lt (tgt := 38) E d_c11_league_65 (by decide) (fun h17 => ?_) (fun h17 => ?_)
        · replace hF := g_t hF h17
          refine j_lv [1, 0] rfl ?_
          exact hI _ (g_inj hF)
        · replace hF := g_f hF h17
          refine j_lv [1, 0] rfl ?_
          exact hO _ (g_inj hF)
      · replace hF := g_t hF h14
        refine j_blk (pc' := 49) (lv' := [(0, .ref a0), (3, .int x38_3)]) (st' := [.ref a0, .int ((Int16.ofInt (-1000)).toInt32)]) E b_c11_league_45_2 rfl ?_
        replace hF := obd_at hF
        obtain ⟨v18, ev18, hF⟩ := hF
        refine j_getI E fg_RX11_94 d_c11_league_49 ev18 ?_
        refine j_blk (pc' := 53) (lv' := [(0, .ref a0), (3, .int x38_3)]) (st' := [.int (((Int16.ofInt (-1000)).toInt32) - v18)]) E b_c11_league_52_1 rfl ?_
        have e : (((Int16.ofInt (-1000)).toInt32) - v18, s12) = res := hO _ (g_inj hF)
        subst e
        exact j_iret E hQ d_c11_league_53 (fun _ h => h)
    refine lpo10 FU (Int32.ofInt 0, s9) o10 ho10 ?_
    rcases o10 with o10 | o10
    · exact (g_inj hF).symm
    · obtain ⟨e38_3, t38⟩ := o10
      show J Γ 7 (HS κ A t38) 0 0 68 [(0, .ref a0), (3, .int e38_3)] []
      refine j_blk (pc' := 69) (lv' := [(0, .ref a0), (3, .int e38_3)]) (st' := [.ref a0]) E b_c11_league_68_1 rfl ?_
      replace hF := obd_at hF
      obtain ⟨v19, ev19, hF⟩ := hF
      refine j_getf E fg_RX11_9 d_c11_league_69 ev19 ?_
      refine j_blk (pc' := 73) (lv' := [(0, .ref a0), (3, .int e38_3)]) (st' := [.ref a0, v19]) E b_c11_league_72_1 rfl ?_
      replace hF := obd_at hF
      obtain ⟨v20, ev20, hF⟩ := hF
      refine j_getf E fg_RX11_16 d_c11_league_73 ev20 ?_
      replace hF := orf_at hF
      obtain ⟨b21, rfl, hF⟩ := hF
      replace hF := orf_at hF
      obtain ⟨b22, rfl, hF⟩ := hF
      replace hF := obd_at hF
      obtain ⟨s24, he23, hF⟩ := hF
      refine j_calls [.ref b22, .ref b21] [] E w_RX11_59 (hroom 0 3 (by decide) (by decide)) hAA (c11_lays _ κ A _ _ _  he23) (fun _ h => h) (fun _ _ _ h _ _ => h) rfl rfl (Nat.le_of_ble_eq_true rfl) d_c11_league_76 ⟨Nat.zero_le _, Nat.zero_le _⟩ ?_
      refine j_blk (pc' := 81) (lv' := [(0, .ref a0), (3, .int e38_3)]) (st' := [.int (Int32.ofInt 0), .ref a0]) E b_c11_league_79_2 rfl ?_
      replace hF := obd_at hF
      obtain ⟨s25, es25, hF⟩ := hF
      refine j_put E fp_RX11_94 d_c11_league_81 rfl rfl es25 hAA ?_
      replace hF := obd_at hF
      obtain ⟨o26, ho26, hF⟩ := hF
      have lpo26 : ∀ (fu : Nat) (w : HM) (o : (Int32 × HM) ⊕ (HM)), iter (f11_league_L84 a0 e38_3) fu w = some o → (fun (o : (Int32 × HM) ⊕ (HM)) => match o with | .inl r => r = res | .inr o => J Γ 7 (HS κ A o) 0 0 143 [(3, .int e38_3)] []) o → (fun (w : HM) => J Γ 7 (HS κ A w) 0 0 84 [(0, .ref a0), (3, .int e38_3)] []) w := by
        refine j_iter (P := fun (w : HM) => J Γ 7 (HS κ A w) 0 0 84 [(0, .ref a0), (3, .int e38_3)] []) (G := fun (o : (Int32 × HM) ⊕ (HM)) => match o with | .inl r => r = res | .inr o => J Γ 7 (HS κ A o) 0 0 143 [(3, .int e38_3)] []) ?_
        intro s84 q hF hI hO
        show J Γ 7 (HS κ A s84) 0 0 84 [(0, .ref a0), (3, .int e38_3)] []
        unfold f11_league_L84 at hF
        refine j_blk (pc' := 85) (lv' := [(0, .ref a0), (3, .int e38_3)]) (st' := [.ref a0]) E b_c11_league_84_1 rfl ?_
        replace hF := obd_at hF
        obtain ⟨v27, ev27, hF⟩ := hF
        refine j_getI E fg_RX11_94 d_c11_league_85 ev27 ?_
        refine j_blk (pc' := 89) (lv' := [(0, .ref a0), (3, .int e38_3)]) (st' := [.ref a0, .int v27]) E b_c11_league_88_1 rfl ?_
        replace hF := obd_at hF
        obtain ⟨v28, ev28, hF⟩ := hF
        refine j_getI E fg_RX11_97 d_c11_league_89 ev28 ?_
        refine j_icmp_ge (tgt := 143) E d_c11_league_92 (by decide) (fun h29 => ?_) (fun h29 => ?_)
        · replace hF := g_t hF h29
          refine j_lv [1] rfl ?_
          exact hO _ (g_inj hF)
        · replace hF := g_f hF h29
          refine j_blk (pc' := 96) (lv' := [(0, .ref a0), (3, .int e38_3)]) (st' := [.ref a0]) E b_c11_league_95_1 rfl ?_
          replace hF := obd_at hF
          obtain ⟨v30, ev30, hF⟩ := hF
          refine j_getI E fg_RX11_94 d_c11_league_96 ev30 ?_
          refine j_blk (pc' := 102) (lv' := [(4, .int v30), (0, .ref a0), (3, .int e38_3)]) (st' := [.ref a0]) E b_c11_league_99_2 rfl ?_
          replace hF := ocl_at hF
          obtain ⟨hc, hF⟩ := hF
          replace hF := obd_at hF
          obtain ⟨v32, he31, hF⟩ := hF
          refine j_callv [] [] E w_RX11_103 (hroom 0 1 (by decide) (by decide)) hAA (c11_here _ κ A _ _  he31) (fun _ h => h) (fun _ _ _ h _ _ => h) (fun _ h => j_recv E h hc rfl) rfl rfl (Nat.le_of_ble_eq_true rfl) d_c11_league_102 ⟨Nat.zero_le _, Nat.zero_le _⟩ ?_
          refine j_blk (pc' := 108) (lv' := [(5, .int v32), (4, .int v30), (0, .ref a0), (3, .int e38_3)]) (st' := [.ref a0]) E b_c11_league_105_2 rfl ?_
          replace hF := ocl_at hF
          obtain ⟨hc, hF⟩ := hF
          replace hF := obd_at hF
          obtain ⟨⟨v35, s34⟩, he33, hF⟩ := hF
          refine j_callv [] [] E w_RX11_137 (hroom 2 3 (by decide) (by decide)) hAA (c11_readsStatement _ κ A _ _  he33) (fun _ h => h) (fun _ _ _ h _ _ => h) (fun _ h => j_recv E h hc rfl) rfl rfl (Nat.le_of_ble_eq_true rfl) d_c11_league_108 ⟨Nat.zero_le _, Nat.zero_le _⟩ ?_
          refine j_blk (pc' := 116) (lv' := [(6, .int v35), (5, .int v32), (4, .int v30), (0, .ref a0), (3, .int e38_3)]) (st' := [.int v32, .ref a0]) E b_c11_league_111_3 rfl ?_
          replace hF := ocl_at hF
          obtain ⟨hc, hF⟩ := hF
          replace hF := obd_at hF
          obtain ⟨⟨v38, s37⟩, he36, hF⟩ := hF
          refine j_callv [.int v32] [] E w_RX11_141 (hroom 3 3 (by decide) (by decide)) hAA (c11_comesTold _ κ A _ _ _  he36) (fun _ h => h) (fun _ _ _ h _ _ => h) (fun _ h => j_recv E h hc rfl) rfl rfl (Nat.le_of_ble_eq_true rfl) d_c11_league_116 ⟨Nat.zero_le _, Nat.zero_le _⟩ ?_
          refine j_if_ne (tgt := 140) E d_c11_league_119 (by decide) (fun h39 => ?_) (fun h39 => ?_)
          · replace hF := g_f hF h39
            refine j_goto (tgt := 84) E d_c11_league_140 (by decide) ?_
            refine j_lv [3, 4] rfl ?_
            exact hI _ (g_inj hF)
          · replace hF := g_t hF h39
            refine j_blk (pc' := 123) (lv' := [(6, .int v35), (5, .int v32), (4, .int v30), (0, .ref a0), (3, .int e38_3)]) (st' := [.ref a0]) E b_c11_league_122_1 rfl ?_
            replace hF := obd_at hF
            obtain ⟨v40, ev40, hF⟩ := hF
            refine j_getf E fg_RX11_16 d_c11_league_123 ev40 ?_
            refine j_blk (pc' := 127) (lv' := [(6, .int v35), (5, .int v32), (4, .int v30), (0, .ref a0), (3, .int e38_3)]) (st' := [.ref a0, v40]) E b_c11_league_126_1 rfl ?_
            replace hF := obd_at hF
            obtain ⟨v41, ev41, hF⟩ := hF
            refine j_getf E fg_RX11_9 d_c11_league_127 ev41 ?_
            replace hF := orf_at hF
            obtain ⟨b42, rfl, hF⟩ := hF
            replace hF := orf_at hF
            obtain ⟨b43, rfl, hF⟩ := hF
            replace hF := obd_at hF
            obtain ⟨s45, he44, hF⟩ := hF
            refine j_calls [.ref b43, .ref b42] [] E w_RX11_59 (hroom 0 3 (by decide) (by decide)) hAA (c11_lays _ κ A _ _ _  he44) (fun _ h => h) (fun _ _ _ h _ _ => h) rfl rfl (Nat.le_of_ble_eq_true rfl) d_c11_league_130 ⟨Nat.zero_le _, Nat.zero_le _⟩ ?_
            refine j_blk (pc' := 139) (lv' := [(6, .int v35), (5, .int v32), (4, .int v30), (0, .ref a0), (3, .int e38_3)]) (st' := [.int (((Int16.ofInt (-2000)).toInt32) - v30)]) E b_c11_league_133_3 rfl ?_
            have e : (((Int16.ofInt (-2000)).toInt32) - v30, s45) = res := hO _ (g_inj hF)
            subst e
            exact j_iret E hQ d_c11_league_139 (fun _ h => h)
      refine lpo26 FU s25 o26 ho26 ?_
      rcases o26 with o26 | o26
      · exact (g_inj hF).symm
      · obtain ⟨t84, rfl⟩ : ∃ z, z = o26 := ⟨_, rfl⟩
        show J Γ 7 (HS κ A t84) 0 0 143 [(3, .int e38_3)] []
        refine j_blk (pc' := 144) (lv' := [(3, .int e38_3)]) (st' := [.int e38_3]) E b_c11_league_143_1 rfl ?_
        have e : res = (e38_3, t84) := g_inj hF
        subst e
        exact j_iret E hQ d_c11_league_144 (fun _ h => h)
  · replace hF := g_f hF h3
    refine j_blk (pc' := 12) (lv' := [(2, .int v2), (0, .ref a0), (1, .int p1)]) (st' := [.int v2]) E b_c11_league_11_1 rfl ?_
    have e : res = (v2, s0) := g_inj hF
    subst e
    exact j_iret E hQ d_c11_league_12 (fun _ h => h)
theorem b_c11_lawful_0_1 : bdec cX11_lawful 0 [.aload_n 0] = true := by decide +kernel
theorem d_c11_lawful_1 : decode cX11_lawful 1 = .ok (.invokevirtual 153, 3) := by decide +kernel
theorem d_c11_lawful_4 : decode cX11_lawful 4 = .ok (.ifCond .eq 7, 3) := by decide +kernel
theorem b_c11_lawful_11_1 : bdec cX11_lawful 11 [.iconst 0] = true := by decide +kernel
theorem d_c11_lawful_12 : decode cX11_lawful 12 = .ok (.ireturn, 1) := by decide +kernel
theorem b_c11_lawful_7_1 : bdec cX11_lawful 7 [.iconst 1] = true := by decide +kernel
theorem d_c11_lawful_8 : decode cX11_lawful 8 = .ok (.goto 4, 3) := by decide +kernel
def f11_lawful (s0 : HM) (a0 : Nat) : Option (Int32) := ocl s0 a0 11 (obd (f11_isLawful s0 a0) (fun v2 => if v2 = 0 then (some (Int32.ofInt 0)) else (some (Int32.ofInt 1))))
set_option maxRecDepth 100000 in
set_option maxHeartbeats 4000000 in
theorem c11_lawful (l : Launch) (κ : KP) (A : Nat → Prop) (s0 : HM) (a0 : Nat) {res : Int32} (hF : f11_lawful s0 a0 = some res) : Met l yX11_lawful (Cond.code yX11_lawful cX11_lawful 1 (some .int) :: WT) (rmL 4 0 0) (PP κ A [.ref a0] (HS κ A s0)) (QQ (some (.int res)) (HS κ A s0) A) 0 0 A := by
  refine met_of (own := RX11) (by decide) rfl (Nat.le_of_ble_eq_true rfl) ?_
  intro Γ E hQ hL hR hA hent hini
  have hAA : ∀ q, A q → jA Γ q := fun q h => by rw [hA]; exact h
  have hroom : ∀ (d mL : Nat) {mc ms : Nat}, d < 4 → mL ≤ 21 → (rmL d mc ms).frames + 1 ≤ (jR Γ).frames ∧ 8 + (mL + 11) + (rmL d mc ms).locals ≤ (jR Γ).locals := fun d mL mc ms h1 h2 => by rw [hR]; exact rmL_le h1 h2
  show J Γ 1 (HS κ A s0) 0 0 0 [(0, .ref a0)] []
  unfold f11_lawful at hF
  refine j_blk (pc' := 1) (lv' := [(0, .ref a0)]) (st' := [.ref a0]) E b_c11_lawful_0_1 rfl ?_
  replace hF := ocl_at hF
  obtain ⟨hc, hF⟩ := hF
  replace hF := obd_at hF
  obtain ⟨v2, he1, hF⟩ := hF
  refine j_callv [] [] E w_RX11_153 (hroom 3 3 (by decide) (by decide)) hAA (c11_isLawful _ κ A _ _  he1) (fun _ h => h) (fun _ _ _ h _ _ => h) (fun _ h => j_recv E h hc rfl) rfl rfl (Nat.le_of_ble_eq_true rfl) d_c11_lawful_1 ⟨Nat.zero_le _, Nat.zero_le _⟩ ?_
  refine j_if_eq (tgt := 11) E d_c11_lawful_4 (by decide) (fun h3 => ?_) (fun h3 => ?_)
  · replace hF := g_t hF h3
    refine j_blk (pc' := 12) (lv' := [(0, .ref a0)]) (st' := [.int (Int32.ofInt 0)]) E b_c11_lawful_11_1 rfl ?_
    have e : res = Int32.ofInt 0 := g_inj hF
    subst e
    exact j_iret E hQ d_c11_lawful_12 (fun _ h => h)
  · replace hF := g_f hF h3
    refine j_blk (pc' := 8) (lv' := [(0, .ref a0)]) (st' := [.int (Int32.ofInt 1)]) E b_c11_lawful_7_1 rfl ?_
    refine j_goto (tgt := 12) E d_c11_lawful_8 (by decide) ?_
    have e : res = Int32.ofInt 1 := g_inj hF
    subst e
    exact j_iret E hQ d_c11_lawful_12 (fun _ h => h)
theorem b_c11_turnedTo_0_4 : bdec cX11_turnedTo 0 [.iconst 0, .istore_n 2, .iconst 0, .istore_n 3] = true := by decide +kernel
theorem b_c11_turnedTo_4_2 : bdec cX11_turnedTo 4 [.iload_n 3, .aload_n 0] = true := by decide +kernel
theorem d_c11_turnedTo_6 : decode cX11_turnedTo 6 = .ok (.getfield 9, 3) := by decide +kernel
theorem b_c11_turnedTo_9_1 : bdec cX11_turnedTo 9 [.iconst 0] = true := by decide +kernel
theorem d_c11_turnedTo_10 : decode cX11_turnedTo 10 = .ok (.iaload, 1) := by decide +kernel
theorem d_c11_turnedTo_11 : decode cX11_turnedTo 11 = .ok (.if_icmp .ge 61, 3) := by decide +kernel
theorem b_c11_turnedTo_14_4 : bdec cX11_turnedTo 14 [.iload_n 3, .iconst 1, .iadd, .istore 4] = true := by decide +kernel
theorem b_c11_turnedTo_19_2 : bdec cX11_turnedTo 19 [.iload 4, .aload_n 0] = true := by decide +kernel
theorem d_c11_turnedTo_22 : decode cX11_turnedTo 22 = .ok (.getfield 9, 3) := by decide +kernel
theorem b_c11_turnedTo_25_1 : bdec cX11_turnedTo 25 [.iconst 0] = true := by decide +kernel
theorem d_c11_turnedTo_26 : decode cX11_turnedTo 26 = .ok (.iaload, 1) := by decide +kernel
theorem d_c11_turnedTo_27 : decode cX11_turnedTo 27 = .ok (.if_icmp .ge 39, 3) := by decide +kernel
theorem b_c11_turnedTo_30_3 : bdec cX11_turnedTo 30 [.aload_n 0, .iload_n 3, .iload 4] = true := by decide +kernel
theorem d_c11_turnedTo_34 : decode cX11_turnedTo 34 = .ok (.invokevirtual 156, 3) := by decide +kernel
theorem b_c11_turnedTo_37_2 : bdec cX11_turnedTo 37 [.iload_n 2, .aload_n 0] = true := by decide +kernel
theorem d_c11_turnedTo_39 : decode cX11_turnedTo 39 = .ok (.invokevirtual 153, 3) := by decide +kernel
theorem b_c11_turnedTo_42_1 : bdec cX11_turnedTo 42 [.iload_n 1] = true := by decide +kernel
theorem d_c11_turnedTo_43 : decode cX11_turnedTo 43 = .ok (.if_icmp .ne 7, 3) := by decide +kernel
theorem b_c11_turnedTo_51_5 : bdec cX11_turnedTo 51 [.iadd, .istore_n 2, .aload_n 0, .iload_n 3, .iload 4] = true := by decide +kernel
theorem d_c11_turnedTo_57 : decode cX11_turnedTo 57 = .ok (.invokevirtual 156, 3) := by decide +kernel
theorem b_c11_turnedTo_60_1 : bdec cX11_turnedTo 60 [.iinc 4 1] = true := by decide +kernel
theorem d_c11_turnedTo_63 : decode cX11_turnedTo 63 = .ok (.goto (-44), 3) := by decide +kernel
theorem b_c11_turnedTo_50_1 : bdec cX11_turnedTo 50 [.iconst 0] = true := by decide +kernel
theorem b_c11_turnedTo_46_1 : bdec cX11_turnedTo 46 [.iconst 1] = true := by decide +kernel
theorem d_c11_turnedTo_47 : decode cX11_turnedTo 47 = .ok (.goto 4, 3) := by decide +kernel
theorem b_c11_turnedTo_66_1 : bdec cX11_turnedTo 66 [.iinc 3 1] = true := by decide +kernel
theorem d_c11_turnedTo_69 : decode cX11_turnedTo 69 = .ok (.goto (-65), 3) := by decide +kernel
theorem b_c11_turnedTo_72_1 : bdec cX11_turnedTo 72 [.iload_n 2] = true := by decide +kernel
theorem d_c11_turnedTo_73 : decode cX11_turnedTo 73 = .ok (.ireturn, 1) := by decide +kernel
def f11_turnedTo_K51 (s12 : HM) (a0 : Nat) (p1 : Int32) (x4_3 : Int32) (x19_4 : Int32) (k51_t0 : Int32) (k51_t1 : Int32) : Option ((Int32 × Int32 × HM) ⊕ (Int32 × HM)) := ocl s12 a0 11 (obd (f11_turns s12 a0 x4_3 x19_4) (fun s16 => some (.inl (k51_t1 + k51_t0, x19_4 + Int32.ofInt 1, s16))))
def f11_turnedTo_L19 (a0 : Nat) (p1 : Int32) (x4_3 : Int32) (w : Int32 × Int32 × HM) : Option ((Int32 × Int32 × HM) ⊕ (Int32 × HM)) := match w with
  | (x19_2, x19_4, s19) => obd (hfld s19 [11] 0 a0) (fun v7 => orf v7 (fun b8 => obd (hald s19 b8 (Int32.ofInt 0)) (fun v9 => if v9 ≤ x19_4 then (some (.inr (x19_2, s19))) else (ocl s19 a0 11 (obd (f11_turns s19 a0 x4_3 x19_4) (fun s12 => ocl s12 a0 11 (obd (f11_isLawful s12 a0) (fun v14 => if v14 = p1 then (f11_turnedTo_K51 s12 a0 p1 x4_3 x19_4 (Int32.ofInt 1) x19_2) else (f11_turnedTo_K51 s12 a0 p1 x4_3 x19_4 (Int32.ofInt 0) x19_2)))))))))
def f11_turnedTo_L4 (a0 : Nat) (p1 : Int32) (w : Int32 × Int32 × HM) : Option ((Int32 × Int32 × HM) ⊕ (Int32 × HM)) := match w with
  | (x4_2, x4_3, s4) => obd (hfld s4 [11] 0 a0) (fun v2 => orf v2 (fun b3 => obd (hald s4 b3 (Int32.ofInt 0)) (fun v4 => if v4 ≤ x4_3 then (some (.inr (x4_2, s4))) else (obd (iter (f11_turnedTo_L19 a0 p1 x4_3) FU (x4_2, x4_3 + (Int32.ofInt 1), s4)) (fun o6 => match o6 with | (e19_2, t19) => some (.inl (e19_2, x4_3 + Int32.ofInt 1, t19)))))))
def f11_turnedTo (s0 : HM) (a0 : Nat) (p1 : Int32) : Option (Int32 × HM) := obd (iter (f11_turnedTo_L4 a0 p1) FU (Int32.ofInt 0, Int32.ofInt 0, s0)) (fun o1 => match o1 with | (e4_2, t4) => some (e4_2, t4))
set_option maxRecDepth 100000 in
set_option maxHeartbeats 4000000 in
theorem c11_turnedTo (l : Launch) (κ : KP) (A : Nat → Prop) (s0 : HM) (a0 : Nat) (p1 : Int32) {res : Int32 × HM} (hF : f11_turnedTo s0 a0 p1 = some res) : Met l yX11_turnedTo (Cond.code yX11_turnedTo cX11_turnedTo 5 (some .int) :: WT) (rmL 4 0 0) (PP κ A [.ref a0, .int p1] (HS κ A s0)) (QQ (some (.int res.1)) (HS κ A res.2) A) 0 0 A := by
  refine met_of (own := RX11) (by decide) rfl (Nat.le_of_ble_eq_true rfl) ?_
  intro Γ E hQ hL hR hA hent hini
  have hAA : ∀ q, A q → jA Γ q := fun q h => by rw [hA]; exact h
  have hroom : ∀ (d mL : Nat) {mc ms : Nat}, d < 4 → mL ≤ 21 → (rmL d mc ms).frames + 1 ≤ (jR Γ).frames ∧ 8 + (mL + 11) + (rmL d mc ms).locals ≤ (jR Γ).locals := fun d mL mc ms h1 h2 => by rw [hR]; exact rmL_le h1 h2
  show J Γ 5 (HS κ A s0) 0 0 0 [(0, .ref a0), (1, .int p1)] []
  unfold f11_turnedTo at hF
  refine j_blk (pc' := 4) (lv' := [(3, .int (Int32.ofInt 0)), (2, .int (Int32.ofInt 0)), (0, .ref a0), (1, .int p1)]) (st' := []) E b_c11_turnedTo_0_4 rfl ?_
  refine j_lv [2, 3, 1, 0] rfl ?_
  replace hF := obd_at hF
  obtain ⟨o1, ho1, hF⟩ := hF
  have lpo1 : ∀ (fu : Nat) (w : Int32 × Int32 × HM) (o : Int32 × HM), iter (f11_turnedTo_L4 a0 p1) fu w = some o → (fun (o : Int32 × HM) => J Γ 5 (HS κ A o.2) 0 0 72 [(2, .int o.1)] []) o → (fun (w : Int32 × Int32 × HM) => J Γ 5 (HS κ A w.2.2) 0 0 4 [(0, .ref a0), (1, .int p1), (2, .int w.1), (3, .int w.2.1)] []) w := by
    refine j_iter (P := fun (w : Int32 × Int32 × HM) => J Γ 5 (HS κ A w.2.2) 0 0 4 [(0, .ref a0), (1, .int p1), (2, .int w.1), (3, .int w.2.1)] []) (G := fun (o : Int32 × HM) => J Γ 5 (HS κ A o.2) 0 0 72 [(2, .int o.1)] []) ?_
    rintro ⟨x4_2, x4_3, s4⟩ q hF hI hO
    show J Γ 5 (HS κ A s4) 0 0 4 [(0, .ref a0), (1, .int p1), (2, .int x4_2), (3, .int x4_3)] []
    unfold f11_turnedTo_L4 at hF
    refine j_blk (pc' := 6) (lv' := [(0, .ref a0), (1, .int p1), (2, .int x4_2), (3, .int x4_3)]) (st' := [.ref a0, .int x4_3]) E b_c11_turnedTo_4_2 rfl ?_
    replace hF := obd_at hF
    obtain ⟨v2, ev2, hF⟩ := hF
    refine j_getf E fg_RX11_9 d_c11_turnedTo_6 ev2 ?_
    refine j_blk (pc' := 10) (lv' := [(0, .ref a0), (1, .int p1), (2, .int x4_2), (3, .int x4_3)]) (st' := [.int (Int32.ofInt 0), v2, .int x4_3]) E b_c11_turnedTo_9_1 rfl ?_
    replace hF := orf_at hF
    obtain ⟨b3, rfl, hF⟩ := hF
    replace hF := obd_at hF
    obtain ⟨v4, ev4, hF⟩ := hF
    refine j_iald E d_c11_turnedTo_10 ev4 ?_
    refine j_icmp_ge (tgt := 72) E d_c11_turnedTo_11 (by decide) (fun h5 => ?_) (fun h5 => ?_)
    · replace hF := g_t hF h5
      refine j_lv [2] rfl ?_
      exact hO _ (g_inj hF)
    · replace hF := g_f hF h5
      refine j_blk (pc' := 19) (lv' := [(4, .int (x4_3 + (Int32.ofInt 1))), (0, .ref a0), (1, .int p1), (2, .int x4_2), (3, .int x4_3)]) (st' := []) E b_c11_turnedTo_14_4 rfl ?_
      refine j_lv [1, 2, 3, 4, 0] rfl ?_
      replace hF := obd_at hF
      obtain ⟨o6, ho6, hF⟩ := hF
      have lpo6 : ∀ (fu : Nat) (w : Int32 × Int32 × HM) (o : Int32 × HM), iter (f11_turnedTo_L19 a0 p1 x4_3) fu w = some o → (fun (o : Int32 × HM) => J Γ 5 (HS κ A o.2) 0 0 66 [(0, .ref a0), (1, .int p1), (2, .int o.1), (3, .int x4_3)] []) o → (fun (w : Int32 × Int32 × HM) => J Γ 5 (HS κ A w.2.2) 0 0 19 [(0, .ref a0), (1, .int p1), (2, .int w.1), (3, .int x4_3), (4, .int w.2.1)] []) w := by
        refine j_iter (P := fun (w : Int32 × Int32 × HM) => J Γ 5 (HS κ A w.2.2) 0 0 19 [(0, .ref a0), (1, .int p1), (2, .int w.1), (3, .int x4_3), (4, .int w.2.1)] []) (G := fun (o : Int32 × HM) => J Γ 5 (HS κ A o.2) 0 0 66 [(0, .ref a0), (1, .int p1), (2, .int o.1), (3, .int x4_3)] []) ?_
        rintro ⟨x19_2, x19_4, s19⟩ q hF hI hO
        show J Γ 5 (HS κ A s19) 0 0 19 [(0, .ref a0), (1, .int p1), (2, .int x19_2), (3, .int x4_3), (4, .int x19_4)] []
        unfold f11_turnedTo_L19 at hF
        refine j_blk (pc' := 22) (lv' := [(0, .ref a0), (1, .int p1), (2, .int x19_2), (3, .int x4_3), (4, .int x19_4)]) (st' := [.ref a0, .int x19_4]) E b_c11_turnedTo_19_2 rfl ?_
        replace hF := obd_at hF
        obtain ⟨v7, ev7, hF⟩ := hF
        refine j_getf E fg_RX11_9 d_c11_turnedTo_22 ev7 ?_
        refine j_blk (pc' := 26) (lv' := [(0, .ref a0), (1, .int p1), (2, .int x19_2), (3, .int x4_3), (4, .int x19_4)]) (st' := [.int (Int32.ofInt 0), v7, .int x19_4]) E b_c11_turnedTo_25_1 rfl ?_
        replace hF := orf_at hF
        obtain ⟨b8, rfl, hF⟩ := hF
        replace hF := obd_at hF
        obtain ⟨v9, ev9, hF⟩ := hF
        refine j_iald E d_c11_turnedTo_26 ev9 ?_
        refine j_icmp_ge (tgt := 66) E d_c11_turnedTo_27 (by decide) (fun h10 => ?_) (fun h10 => ?_)
        · replace hF := g_t hF h10
          refine j_lv [0, 1, 2, 3] rfl ?_
          exact hO _ (g_inj hF)
        · replace hF := g_f hF h10
          refine j_blk (pc' := 34) (lv' := [(0, .ref a0), (1, .int p1), (2, .int x19_2), (3, .int x4_3), (4, .int x19_4)]) (st' := [.int x19_4, .int x4_3, .ref a0]) E b_c11_turnedTo_30_3 rfl ?_
          replace hF := ocl_at hF
          obtain ⟨hc, hF⟩ := hF
          replace hF := obd_at hF
          obtain ⟨s12, he11, hF⟩ := hF
          refine j_callv [.int x4_3, .int x19_4] [] E w_RX11_156 (hroom 2 3 (by decide) (by decide)) hAA (c11_turns _ κ A _ _ _ _  he11) (fun _ h => h) (fun _ _ _ h _ _ => h) (fun _ h => j_recv E h hc rfl) rfl rfl (Nat.le_of_ble_eq_true rfl) d_c11_turnedTo_34 ⟨Nat.zero_le _, Nat.zero_le _⟩ ?_
          refine j_blk (pc' := 39) (lv' := [(0, .ref a0), (1, .int p1), (2, .int x19_2), (3, .int x4_3), (4, .int x19_4)]) (st' := [.ref a0, .int x19_2]) E b_c11_turnedTo_37_2 rfl ?_
          replace hF := ocl_at hF
          obtain ⟨hc, hF⟩ := hF
          replace hF := obd_at hF
          obtain ⟨v14, he13, hF⟩ := hF
          refine j_callv [] [.int x19_2] E w_RX11_153 (hroom 3 3 (by decide) (by decide)) hAA (c11_isLawful _ κ A _ _  he13) (fun _ h => h) (fun _ _ _ h _ _ => h) (fun _ h => j_recv E h hc rfl) rfl rfl (Nat.le_of_ble_eq_true rfl) d_c11_turnedTo_39 ⟨Nat.zero_le _, Nat.zero_le _⟩ ?_
          refine j_blk (pc' := 43) (lv' := [(0, .ref a0), (1, .int p1), (2, .int x19_2), (3, .int x4_3), (4, .int x19_4)]) (st' := [.int p1, .int v14, .int x19_2]) E b_c11_turnedTo_42_1 rfl ?_
          have kp51 : ∀ (k51_t0 : Int32) (k51_t1 : Int32), f11_turnedTo_K51 s12 a0 p1 x4_3 x19_4 k51_t0 k51_t1 = some q → J Γ 5 (HS κ A s12) 0 0 51 [(0, .ref a0), (1, .int p1), (3, .int x4_3), (4, .int x19_4)] [.int k51_t0, .int k51_t1] := by
            intro k51_t0 k51_t1 hF
            unfold f11_turnedTo_K51 at hF
            refine j_blk (pc' := 57) (lv' := [(2, .int (k51_t1 + k51_t0)), (0, .ref a0), (1, .int p1), (3, .int x4_3), (4, .int x19_4)]) (st' := [.int x19_4, .int x4_3, .ref a0]) E b_c11_turnedTo_51_5 rfl ?_
            replace hF := ocl_at hF
            obtain ⟨hc, hF⟩ := hF
            replace hF := obd_at hF
            obtain ⟨s16, he15, hF⟩ := hF
            refine j_callv [.int x4_3, .int x19_4] [] E w_RX11_156 (hroom 2 3 (by decide) (by decide)) hAA (c11_turns _ κ A _ _ _ _  he15) (fun _ h => h) (fun _ _ _ h _ _ => h) (fun _ h => j_recv E h hc rfl) rfl rfl (Nat.le_of_ble_eq_true rfl) d_c11_turnedTo_57 ⟨Nat.zero_le _, Nat.zero_le _⟩ ?_
            refine j_blk (pc' := 63) (lv' := [(4, .int (x19_4 + Int32.ofInt 1)), (2, .int (k51_t1 + k51_t0)), (0, .ref a0), (1, .int p1), (3, .int x4_3)]) (st' := []) E b_c11_turnedTo_60_1 rfl ?_
            refine j_goto (tgt := 19) E d_c11_turnedTo_63 (by decide) ?_
            refine j_lv [2, 3, 1, 4, 0] rfl ?_
            exact hI _ (g_inj hF)
          refine j_icmp_ne (tgt := 50) E d_c11_turnedTo_43 (by decide) (fun h17 => ?_) (fun h17 => ?_)
          · replace hF := g_f hF h17
            refine j_blk (pc' := 51) (lv' := [(0, .ref a0), (1, .int p1), (2, .int x19_2), (3, .int x4_3), (4, .int x19_4)]) (st' := [.int (Int32.ofInt 0), .int x19_2]) E b_c11_turnedTo_50_1 rfl ?_
            refine j_lv [0, 1, 3, 4] rfl ?_
            exact kp51 (Int32.ofInt 0) x19_2 hF
          · replace hF := g_t hF h17
            refine j_blk (pc' := 47) (lv' := [(0, .ref a0), (1, .int p1), (2, .int x19_2), (3, .int x4_3), (4, .int x19_4)]) (st' := [.int (Int32.ofInt 1), .int x19_2]) E b_c11_turnedTo_46_1 rfl ?_
            refine j_goto (tgt := 51) E d_c11_turnedTo_47 (by decide) ?_
            refine j_lv [0, 1, 3, 4] rfl ?_
            exact kp51 (Int32.ofInt 1) x19_2 hF
      refine lpo6 FU (x4_2, x4_3 + (Int32.ofInt 1), s4) o6 ho6 ?_
      obtain ⟨e19_2, t19⟩ := o6
      show J Γ 5 (HS κ A t19) 0 0 66 [(0, .ref a0), (1, .int p1), (2, .int e19_2), (3, .int x4_3)] []
      refine j_blk (pc' := 69) (lv' := [(3, .int (x4_3 + Int32.ofInt 1)), (0, .ref a0), (1, .int p1), (2, .int e19_2)]) (st' := []) E b_c11_turnedTo_66_1 rfl ?_
      refine j_goto (tgt := 4) E d_c11_turnedTo_69 (by decide) ?_
      refine j_lv [1, 2, 3, 0] rfl ?_
      exact hI _ (g_inj hF)
  refine lpo1 FU (Int32.ofInt 0, Int32.ofInt 0, s0) o1 ho1 ?_
  obtain ⟨e4_2, t4⟩ := o1
  show J Γ 5 (HS κ A t4) 0 0 72 [(2, .int e4_2)] []
  refine j_blk (pc' := 73) (lv' := [(2, .int e4_2)]) (st' := [.int e4_2]) E b_c11_turnedTo_72_1 rfl ?_
  have e : res = (e4_2, t4) := g_inj hF
  subst e
  exact j_iret E hQ d_c11_turnedTo_73 (fun _ h => h)
theorem b_c11_fresh_0_3 : bdec cX11_fresh 0 [.iload_n 1, .i2l, .lconst 0] = true := by decide +kernel
theorem d_c11_fresh_3 : decode cX11_fresh 3 = .ok (.ldc2_w 47, 3) := by decide +kernel
theorem d_c11_fresh_6 : decode cX11_fresh 6 = .ok (.invokestatic 49, 3) := by decide +kernel
theorem d_c11_fresh_9 : decode cX11_fresh 9 = .ok (.ifCond .eq 25, 3) := by decide +kernel
theorem b_c11_fresh_34_1 : bdec cX11_fresh 34 [.iconst (-1)] = true := by decide +kernel
theorem d_c11_fresh_35 : decode cX11_fresh 35 = .ok (.ireturn, 1) := by decide +kernel
theorem b_c11_fresh_12_3 : bdec cX11_fresh 12 [.iload_n 2, .i2l, .lconst 0] = true := by decide +kernel
theorem d_c11_fresh_15 : decode cX11_fresh 15 = .ok (.ldc2_w 175, 3) := by decide +kernel
theorem d_c11_fresh_18 : decode cX11_fresh 18 = .ok (.invokestatic 49, 3) := by decide +kernel
theorem d_c11_fresh_21 : decode cX11_fresh 21 = .ok (.ifCond .eq 13, 3) := by decide +kernel
theorem b_c11_fresh_24_4 : bdec cX11_fresh 24 [.iload_n 3, .i2l, .lconst 0, .lconst 1] = true := by decide +kernel
theorem d_c11_fresh_28 : decode cX11_fresh 28 = .ok (.invokestatic 49, 3) := by decide +kernel
theorem d_c11_fresh_31 : decode cX11_fresh 31 = .ok (.ifCond .ne 5, 3) := by decide +kernel
theorem b_c11_fresh_36_1 : bdec cX11_fresh 36 [.aload_n 0] = true := by decide +kernel
theorem d_c11_fresh_37 : decode cX11_fresh 37 = .ok (.getfield 9, 3) := by decide +kernel
theorem b_c11_fresh_40_1 : bdec cX11_fresh 40 [.iconst 0] = true := by decide +kernel
theorem d_c11_fresh_41 : decode cX11_fresh 41 = .ok (.iaload, 1) := by decide +kernel
theorem b_c11_fresh_42_6 : bdec cX11_fresh 42 [.istore 4, .iconst 0, .istore 5, .bipush (-4), .istore 6, .aload_n 0] = true := by decide +kernel
theorem d_c11_fresh_52 : decode cX11_fresh 52 = .ok (.invokevirtual 177, 3) := by decide +kernel
theorem b_c11_fresh_55_2 : bdec cX11_fresh 55 [.iconst 0, .istore 7] = true := by decide +kernel
theorem b_c11_fresh_58_4 : bdec cX11_fresh 58 [.iload 7, .iconst 1, .iload 4, .ishl] = true := by decide +kernel
theorem d_c11_fresh_64 : decode cX11_fresh 64 = .ok (.if_icmp .ge 102, 3) := by decide +kernel
theorem b_c11_fresh_67_3 : bdec cX11_fresh 67 [.aload_n 0, .iload_n 1, .iload_n 2] = true := by decide +kernel
theorem d_c11_fresh_70 : decode cX11_fresh 70 = .ok (.invokevirtual 114, 3) := by decide +kernel
theorem b_c11_fresh_73_2 : bdec cX11_fresh 73 [.iconst 0, .istore 8] = true := by decide +kernel
theorem b_c11_fresh_76_2 : bdec cX11_fresh 76 [.iload 8, .iload 4] = true := by decide +kernel
theorem d_c11_fresh_80 : decode cX11_fresh 80 = .ok (.if_icmp .ge 28, 3) := by decide +kernel
theorem b_c11_fresh_83_6 : bdec cX11_fresh 83 [.iload 7, .iload 8, .ishr, .iconst 1, .iand, .iconst 1] = true := by decide +kernel
theorem d_c11_fresh_91 : decode cX11_fresh 91 = .ok (.if_icmp .ne 11, 3) := by decide +kernel
theorem b_c11_fresh_102_1 : bdec cX11_fresh 102 [.iinc 8 1] = true := by decide +kernel
theorem d_c11_fresh_105 : decode cX11_fresh 105 = .ok (.goto (-29), 3) := by decide +kernel
theorem b_c11_fresh_94_3 : bdec cX11_fresh 94 [.aload_n 0, .iload 4, .iload 8] = true := by decide +kernel
theorem d_c11_fresh_99 : decode cX11_fresh 99 = .ok (.invokevirtual 84, 3) := by decide +kernel
theorem b_c11_fresh_108_1 : bdec cX11_fresh 108 [.aload_n 0] = true := by decide +kernel
theorem d_c11_fresh_109 : decode cX11_fresh 109 = .ok (.invokevirtual 153, 3) := by decide +kernel
theorem b_c11_fresh_112_2 : bdec cX11_fresh 112 [.istore 8, .aload_n 0] = true := by decide +kernel
theorem d_c11_fresh_115 : decode cX11_fresh 115 = .ok (.invokevirtual 180, 3) := by decide +kernel
theorem b_c11_fresh_118_1 : bdec cX11_fresh 118 [.iload 8] = true := by decide +kernel
theorem d_c11_fresh_120 : decode cX11_fresh 120 = .ok (.ifCond .ne 6, 3) := by decide +kernel
theorem b_c11_fresh_126_3 : bdec cX11_fresh 126 [.iinc 5 1, .iload 4, .iload 7] = true := by decide +kernel
theorem d_c11_fresh_133 : decode cX11_fresh 133 = .ok (.invokestatic 67, 3) := by decide +kernel
theorem b_c11_fresh_136_3 : bdec cX11_fresh 136 [.isub, .istore 9, .iload 6] = true := by decide +kernel
theorem d_c11_fresh_141 : decode cX11_fresh 141 = .ok (.ifCond .lt 10, 3) := by decide +kernel
theorem b_c11_fresh_151_1 : bdec cX11_fresh 151 [.iload 9] = true := by decide +kernel
theorem d_c11_fresh_153 : decode cX11_fresh 153 = .ok (.goto 5, 3) := by decide +kernel
theorem b_c11_fresh_158_2 : bdec cX11_fresh 158 [.istore 6, .iinc 7 1] = true := by decide +kernel
theorem d_c11_fresh_163 : decode cX11_fresh 163 = .ok (.goto (-105), 3) := by decide +kernel
theorem b_c11_fresh_144_2 : bdec cX11_fresh 144 [.iload 9, .iload 6] = true := by decide +kernel
theorem d_c11_fresh_148 : decode cX11_fresh 148 = .ok (.if_icmp .ge 8, 3) := by decide +kernel
theorem b_c11_fresh_156_3 : bdec cX11_fresh 156 [.iload 6, .istore 6, .iinc 7 1] = true := by decide +kernel
theorem d_c11_fresh_123 : decode cX11_fresh 123 = .ok (.goto 37, 3) := by decide +kernel
theorem b_c11_fresh_160_1 : bdec cX11_fresh 160 [.iinc 7 1] = true := by decide +kernel
theorem b_c11_fresh_166_1 : bdec cX11_fresh 166 [.iload_n 3] = true := by decide +kernel
theorem d_c11_fresh_167 : decode cX11_fresh 167 = .ok (.ifCond .ne 8, 3) := by decide +kernel
theorem b_c11_fresh_175_1 : bdec cX11_fresh 175 [.iload 6] = true := by decide +kernel
theorem d_c11_fresh_177 : decode cX11_fresh 177 = .ok (.ireturn, 1) := by decide +kernel
theorem b_c11_fresh_170_1 : bdec cX11_fresh 170 [.iload 5] = true := by decide +kernel
theorem d_c11_fresh_172 : decode cX11_fresh 172 = .ok (.goto 5, 3) := by decide +kernel
def f11_fresh_L76 (a0 : Nat) (p1 : Int32) (p2 : Int32) (p3 : Int32) (v12 : Int32) (x58_5 : Int32) (x58_6 : Int32) (x58_7 : Int32) (w : Int32 × HM) : Option ((Int32 × HM) ⊕ (HM)) := match w with
  | (x76_8, s76) => if v12 ≤ x76_8 then (some (.inr s76)) else (if ((x58_7 >>> (x76_8 &&& 31)) &&& (Int32.ofInt 1)) = (Int32.ofInt 1) then (ocl s76 a0 11 (obd (f11_beats s76 a0 v12 x76_8) (fun s23 => some (.inl (x76_8 + Int32.ofInt 1, s23))))) else (some (.inl (x76_8 + Int32.ofInt 1, s76))))
def f11_fresh_L58 (a0 : Nat) (p1 : Int32) (p2 : Int32) (p3 : Int32) (v12 : Int32) (w : Int32 × Int32 × Int32 × HM) : Option ((Int32 × Int32 × Int32 × HM) ⊕ (Int32 × Int32 × HM)) := match w with
  | (x58_5, x58_6, x58_7, s58) => if ((Int32.ofInt 1) <<< (v12 &&& 31)) ≤ x58_7 then (some (.inr (x58_5, x58_6, s58))) else (ocl s58 a0 11 (obd (f11_joins s58 a0 p1 p2) (fun s18 => obd (iter (f11_fresh_L76 a0 p1 p2 p3 v12 x58_5 x58_6 x58_7) FU (Int32.ofInt 0, s18)) (fun o19 => match o19 with | t76 => ocl t76 a0 11 (obd (f11_isLawful t76 a0) (fun v25 => ocl t76 a0 11 (obd (f11_ends t76 a0) (fun s27 => if v25 = 0 then (some (.inl (x58_5, x58_6, x58_7 + Int32.ofInt 1, s27))) else (obd (f11_bits x58_7) (fun v30 => if x58_6 < 0 then (some (.inl (x58_5 + Int32.ofInt 1, v12 - v30, x58_7 + Int32.ofInt 1, s27))) else (if x58_6 ≤ (v12 - v30) then (some (.inl (x58_5 + Int32.ofInt 1, x58_6, x58_7 + Int32.ofInt 1, s27))) else (some (.inl (x58_5 + Int32.ofInt 1, v12 - v30, x58_7 + Int32.ofInt 1, s27))))))))))))))
def f11_fresh (s0 : HM) (a0 : Nat) (p1 : Int32) (p2 : Int32) (p3 : Int32) : Option (Int32 × HM) := obd (f11_isIn p1.toInt64 (Int64.ofNat 0) 7) (fun v2 => if v2 = 0 then (some (Int32.ofInt (-1), s0)) else (obd (f11_isIn p2.toInt64 (Int64.ofNat 0) 9) (fun v5 => if v5 = 0 then (some (Int32.ofInt (-1), s0)) else (obd (f11_isIn p3.toInt64 (Int64.ofNat 0) (Int64.ofNat 1)) (fun v8 => if v8 = 0 then (some (Int32.ofInt (-1), s0)) else (obd (hfld s0 [11] 0 a0) (fun v10 => orf v10 (fun b11 => obd (hald s0 b11 (Int32.ofInt 0)) (fun v12 => ocl s0 a0 11 (obd (f11_begins s0 a0) (fun s14 => obd (iter (f11_fresh_L58 a0 p1 p2 p3 v12) FU (Int32.ofInt 0, (Int8.ofInt (-4)).toInt32, Int32.ofInt 0, s14)) (fun o15 => match o15 with | (e58_5, e58_6, t58) => if p3 = 0 then (some (e58_5, t58)) else (some (e58_6, t58))))))))))))))
set_option maxRecDepth 100000 in
set_option maxHeartbeats 4000000 in
theorem c11_fresh (l : Launch) (κ : KP) (A : Nat → Prop) (s0 : HM) (a0 : Nat) (p1 : Int32) (p2 : Int32) (p3 : Int32) {res : Int32 × HM} (hF : f11_fresh s0 a0 p1 p2 p3 = some res) : Met l yX11_fresh (Cond.code yX11_fresh cX11_fresh 10 (some .int) :: WT) (rmL 4 0 0) (PP κ A [.ref a0, .int p1, .int p2, .int p3] (HS κ A s0)) (QQ (some (.int res.1)) (HS κ A res.2) A) 0 0 A := by
  refine met_of (own := RX11) (by decide) rfl (Nat.le_of_ble_eq_true rfl) ?_
  intro Γ E hQ hL hR hA hent hini
  have hAA : ∀ q, A q → jA Γ q := fun q h => by rw [hA]; exact h
  have hroom : ∀ (d mL : Nat) {mc ms : Nat}, d < 4 → mL ≤ 21 → (rmL d mc ms).frames + 1 ≤ (jR Γ).frames ∧ 8 + (mL + 11) + (rmL d mc ms).locals ≤ (jR Γ).locals := fun d mL mc ms h1 h2 => by rw [hR]; exact rmL_le h1 h2
  show J Γ 10 (HS κ A s0) 0 0 0 [(0, .ref a0), (1, .int p1), (2, .int p2), (3, .int p3)] []
  unfold f11_fresh at hF
  refine j_blk (pc' := 3) (lv' := [(0, .ref a0), (1, .int p1), (2, .int p2), (3, .int p3)]) (st' := [.long (Int64.ofNat 0), .long p1.toInt64]) E b_c11_fresh_0_3 rfl ?_
  refine j_ldc2 (u := 7) E d_c11_fresh_3 m_876 ?_
  replace hF := obd_at hF
  obtain ⟨v2, he1, hF⟩ := hF
  refine j_calls [.long p1.toInt64, .long (Int64.ofNat 0), .long 7] [] E w_RX11_49 (hroom 0 6 (by decide) (by decide)) hAA (c11_isIn _ κ A (HS κ A s0) _ _ _  he1) (fun _ h => h) (fun _ _ _ h _ _ => h) rfl rfl (Nat.le_of_ble_eq_true rfl) d_c11_fresh_6 ⟨Nat.zero_le _, Nat.zero_le _⟩ ?_
  refine j_if_eq (tgt := 34) E d_c11_fresh_9 (by decide) (fun h3 => ?_) (fun h3 => ?_)
  · replace hF := g_t hF h3
    refine j_blk (pc' := 35) (lv' := [(0, .ref a0), (1, .int p1), (2, .int p2), (3, .int p3)]) (st' := [.int (Int32.ofInt (-1))]) E b_c11_fresh_34_1 rfl ?_
    have e : res = (Int32.ofInt (-1), s0) := g_inj hF
    subst e
    exact j_iret E hQ d_c11_fresh_35 (fun _ h => h)
  · replace hF := g_f hF h3
    refine j_blk (pc' := 15) (lv' := [(0, .ref a0), (1, .int p1), (2, .int p2), (3, .int p3)]) (st' := [.long (Int64.ofNat 0), .long p2.toInt64]) E b_c11_fresh_12_3 rfl ?_
    refine j_ldc2 (u := 9) E d_c11_fresh_15 m_1046 ?_
    replace hF := obd_at hF
    obtain ⟨v5, he4, hF⟩ := hF
    refine j_calls [.long p2.toInt64, .long (Int64.ofNat 0), .long 9] [] E w_RX11_49 (hroom 0 6 (by decide) (by decide)) hAA (c11_isIn _ κ A (HS κ A s0) _ _ _  he4) (fun _ h => h) (fun _ _ _ h _ _ => h) rfl rfl (Nat.le_of_ble_eq_true rfl) d_c11_fresh_18 ⟨Nat.zero_le _, Nat.zero_le _⟩ ?_
    refine j_if_eq (tgt := 34) E d_c11_fresh_21 (by decide) (fun h6 => ?_) (fun h6 => ?_)
    · replace hF := g_t hF h6
      refine j_blk (pc' := 35) (lv' := [(0, .ref a0), (1, .int p1), (2, .int p2), (3, .int p3)]) (st' := [.int (Int32.ofInt (-1))]) E b_c11_fresh_34_1 rfl ?_
      have e : res = (Int32.ofInt (-1), s0) := g_inj hF
      subst e
      exact j_iret E hQ d_c11_fresh_35 (fun _ h => h)
    · replace hF := g_f hF h6
      refine j_blk (pc' := 28) (lv' := [(0, .ref a0), (1, .int p1), (2, .int p2), (3, .int p3)]) (st' := [.long (Int64.ofNat 1), .long (Int64.ofNat 0), .long p3.toInt64]) E b_c11_fresh_24_4 rfl ?_
      replace hF := obd_at hF
      obtain ⟨v8, he7, hF⟩ := hF
      refine j_calls [.long p3.toInt64, .long (Int64.ofNat 0), .long (Int64.ofNat 1)] [] E w_RX11_49 (hroom 0 6 (by decide) (by decide)) hAA (c11_isIn _ κ A (HS κ A s0) _ _ _  he7) (fun _ h => h) (fun _ _ _ h _ _ => h) rfl rfl (Nat.le_of_ble_eq_true rfl) d_c11_fresh_28 ⟨Nat.zero_le _, Nat.zero_le _⟩ ?_
      refine j_if_ne (tgt := 36) E d_c11_fresh_31 (by decide) (fun h9 => ?_) (fun h9 => ?_)
      · replace hF := g_f hF h9
        refine j_blk (pc' := 37) (lv' := [(0, .ref a0), (1, .int p1), (2, .int p2), (3, .int p3)]) (st' := [.ref a0]) E b_c11_fresh_36_1 rfl ?_
        replace hF := obd_at hF
        obtain ⟨v10, ev10, hF⟩ := hF
        refine j_getf E fg_RX11_9 d_c11_fresh_37 ev10 ?_
        refine j_blk (pc' := 41) (lv' := [(0, .ref a0), (1, .int p1), (2, .int p2), (3, .int p3)]) (st' := [.int (Int32.ofInt 0), v10]) E b_c11_fresh_40_1 rfl ?_
        replace hF := orf_at hF
        obtain ⟨b11, rfl, hF⟩ := hF
        replace hF := obd_at hF
        obtain ⟨v12, ev12, hF⟩ := hF
        refine j_iald E d_c11_fresh_41 ev12 ?_
        refine j_blk (pc' := 52) (lv' := [(6, .int ((Int8.ofInt (-4)).toInt32)), (5, .int (Int32.ofInt 0)), (4, .int v12), (0, .ref a0), (1, .int p1), (2, .int p2), (3, .int p3)]) (st' := [.ref a0]) E b_c11_fresh_42_6 rfl ?_
        replace hF := ocl_at hF
        obtain ⟨hc, hF⟩ := hF
        replace hF := obd_at hF
        obtain ⟨s14, he13, hF⟩ := hF
        refine j_callv [] [] E w_RX11_177 (hroom 1 1 (by decide) (by decide)) hAA (c11_begins _ κ A _ _  he13) (fun _ h => h) (fun _ _ _ h _ _ => h) (fun _ h => j_recv E h hc rfl) rfl rfl (Nat.le_of_ble_eq_true rfl) d_c11_fresh_52 ⟨Nat.zero_le _, Nat.zero_le _⟩ ?_
        refine j_blk (pc' := 58) (lv' := [(7, .int (Int32.ofInt 0)), (6, .int ((Int8.ofInt (-4)).toInt32)), (5, .int (Int32.ofInt 0)), (4, .int v12), (0, .ref a0), (1, .int p1), (2, .int p2), (3, .int p3)]) (st' := []) E b_c11_fresh_55_2 rfl ?_
        refine j_lv [4, 5, 6, 7, 3, 2, 1, 0] rfl ?_
        replace hF := obd_at hF
        obtain ⟨o15, ho15, hF⟩ := hF
        have lpo15 : ∀ (fu : Nat) (w : Int32 × Int32 × Int32 × HM) (o : Int32 × Int32 × HM), iter (f11_fresh_L58 a0 p1 p2 p3 v12) fu w = some o → (fun (o : Int32 × Int32 × HM) => J Γ 10 (HS κ A o.2.2) 0 0 166 [(3, .int p3), (5, .int o.1), (6, .int o.2.1)] []) o → (fun (w : Int32 × Int32 × Int32 × HM) => J Γ 10 (HS κ A w.2.2.2) 0 0 58 [(0, .ref a0), (1, .int p1), (2, .int p2), (3, .int p3), (4, .int v12), (5, .int w.1), (6, .int w.2.1), (7, .int w.2.2.1)] []) w := by
          refine j_iter (P := fun (w : Int32 × Int32 × Int32 × HM) => J Γ 10 (HS κ A w.2.2.2) 0 0 58 [(0, .ref a0), (1, .int p1), (2, .int p2), (3, .int p3), (4, .int v12), (5, .int w.1), (6, .int w.2.1), (7, .int w.2.2.1)] []) (G := fun (o : Int32 × Int32 × HM) => J Γ 10 (HS κ A o.2.2) 0 0 166 [(3, .int p3), (5, .int o.1), (6, .int o.2.1)] []) ?_
          rintro ⟨x58_5, x58_6, x58_7, s58⟩ q hF hI hO
          show J Γ 10 (HS κ A s58) 0 0 58 [(0, .ref a0), (1, .int p1), (2, .int p2), (3, .int p3), (4, .int v12), (5, .int x58_5), (6, .int x58_6), (7, .int x58_7)] []
          unfold f11_fresh_L58 at hF
          refine j_blk (pc' := 64) (lv' := [(0, .ref a0), (1, .int p1), (2, .int p2), (3, .int p3), (4, .int v12), (5, .int x58_5), (6, .int x58_6), (7, .int x58_7)]) (st' := [.int ((Int32.ofInt 1) <<< (v12 &&& 31)), .int x58_7]) E b_c11_fresh_58_4 rfl ?_
          refine j_icmp_ge (tgt := 166) E d_c11_fresh_64 (by decide) (fun h16 => ?_) (fun h16 => ?_)
          · replace hF := g_t hF h16
            refine j_lv [3, 5, 6] rfl ?_
            exact hO _ (g_inj hF)
          · replace hF := g_f hF h16
            refine j_blk (pc' := 70) (lv' := [(0, .ref a0), (1, .int p1), (2, .int p2), (3, .int p3), (4, .int v12), (5, .int x58_5), (6, .int x58_6), (7, .int x58_7)]) (st' := [.int p2, .int p1, .ref a0]) E b_c11_fresh_67_3 rfl ?_
            replace hF := ocl_at hF
            obtain ⟨hc, hF⟩ := hF
            replace hF := obd_at hF
            obtain ⟨s18, he17, hF⟩ := hF
            refine j_callv [.int p1, .int p2] [] E w_RX11_114 (hroom 1 5 (by decide) (by decide)) hAA (c11_joins _ κ A _ _ _ _  he17) (fun _ h => h) (fun _ _ _ h _ _ => h) (fun _ h => j_recv E h hc rfl) rfl rfl (Nat.le_of_ble_eq_true rfl) d_c11_fresh_70 ⟨Nat.zero_le _, Nat.zero_le _⟩ ?_
            refine j_blk (pc' := 76) (lv' := [(8, .int (Int32.ofInt 0)), (0, .ref a0), (1, .int p1), (2, .int p2), (3, .int p3), (4, .int v12), (5, .int x58_5), (6, .int x58_6), (7, .int x58_7)]) (st' := []) E b_c11_fresh_73_2 rfl ?_
            refine j_lv [1, 2, 3, 4, 5, 6, 7, 8, 0] rfl ?_
            replace hF := obd_at hF
            obtain ⟨o19, ho19, hF⟩ := hF
            have lpo19 : ∀ (fu : Nat) (w : Int32 × HM) (o : HM), iter (f11_fresh_L76 a0 p1 p2 p3 v12 x58_5 x58_6 x58_7) fu w = some o → (fun (o : HM) => J Γ 10 (HS κ A o) 0 0 108 [(0, .ref a0), (1, .int p1), (2, .int p2), (3, .int p3), (4, .int v12), (5, .int x58_5), (6, .int x58_6), (7, .int x58_7)] []) o → (fun (w : Int32 × HM) => J Γ 10 (HS κ A w.2) 0 0 76 [(0, .ref a0), (1, .int p1), (2, .int p2), (3, .int p3), (4, .int v12), (5, .int x58_5), (6, .int x58_6), (7, .int x58_7), (8, .int w.1)] []) w := by
              refine j_iter (P := fun (w : Int32 × HM) => J Γ 10 (HS κ A w.2) 0 0 76 [(0, .ref a0), (1, .int p1), (2, .int p2), (3, .int p3), (4, .int v12), (5, .int x58_5), (6, .int x58_6), (7, .int x58_7), (8, .int w.1)] []) (G := fun (o : HM) => J Γ 10 (HS κ A o) 0 0 108 [(0, .ref a0), (1, .int p1), (2, .int p2), (3, .int p3), (4, .int v12), (5, .int x58_5), (6, .int x58_6), (7, .int x58_7)] []) ?_
              rintro ⟨x76_8, s76⟩ q hF hI hO
              show J Γ 10 (HS κ A s76) 0 0 76 [(0, .ref a0), (1, .int p1), (2, .int p2), (3, .int p3), (4, .int v12), (5, .int x58_5), (6, .int x58_6), (7, .int x58_7), (8, .int x76_8)] []
              unfold f11_fresh_L76 at hF
              refine j_blk (pc' := 80) (lv' := [(0, .ref a0), (1, .int p1), (2, .int p2), (3, .int p3), (4, .int v12), (5, .int x58_5), (6, .int x58_6), (7, .int x58_7), (8, .int x76_8)]) (st' := [.int v12, .int x76_8]) E b_c11_fresh_76_2 rfl ?_
              refine j_icmp_ge (tgt := 108) E d_c11_fresh_80 (by decide) (fun h20 => ?_) (fun h20 => ?_)
              · replace hF := g_t hF h20
                refine j_lv [0, 1, 2, 3, 4, 5, 6, 7] rfl ?_
                exact hO _ (g_inj hF)
              · replace hF := g_f hF h20
                refine j_blk (pc' := 91) (lv' := [(0, .ref a0), (1, .int p1), (2, .int p2), (3, .int p3), (4, .int v12), (5, .int x58_5), (6, .int x58_6), (7, .int x58_7), (8, .int x76_8)]) (st' := [.int (Int32.ofInt 1), .int ((x58_7 >>> (x76_8 &&& 31)) &&& (Int32.ofInt 1))]) E b_c11_fresh_83_6 rfl ?_
                refine j_icmp_ne (tgt := 102) E d_c11_fresh_91 (by decide) (fun h21 => ?_) (fun h21 => ?_)
                · replace hF := g_f hF h21
                  refine j_blk (pc' := 105) (lv' := [(8, .int (x76_8 + Int32.ofInt 1)), (0, .ref a0), (1, .int p1), (2, .int p2), (3, .int p3), (4, .int v12), (5, .int x58_5), (6, .int x58_6), (7, .int x58_7)]) (st' := []) E b_c11_fresh_102_1 rfl ?_
                  refine j_goto (tgt := 76) E d_c11_fresh_105 (by decide) ?_
                  refine j_lv [1, 2, 3, 4, 5, 6, 7, 8, 0] rfl ?_
                  exact hI _ (g_inj hF)
                · replace hF := g_t hF h21
                  refine j_blk (pc' := 99) (lv' := [(0, .ref a0), (1, .int p1), (2, .int p2), (3, .int p3), (4, .int v12), (5, .int x58_5), (6, .int x58_6), (7, .int x58_7), (8, .int x76_8)]) (st' := [.int x76_8, .int v12, .ref a0]) E b_c11_fresh_94_3 rfl ?_
                  replace hF := ocl_at hF
                  obtain ⟨hc, hF⟩ := hF
                  replace hF := obd_at hF
                  obtain ⟨s23, he22, hF⟩ := hF
                  refine j_callv [.int v12, .int x76_8] [] E w_RX11_84 (hroom 1 3 (by decide) (by decide)) hAA (c11_beats _ κ A _ _ _ _  he22) (fun _ h => h) (fun _ _ _ h _ _ => h) (fun _ h => j_recv E h hc rfl) rfl rfl (Nat.le_of_ble_eq_true rfl) d_c11_fresh_99 ⟨Nat.zero_le _, Nat.zero_le _⟩ ?_
                  refine j_blk (pc' := 105) (lv' := [(8, .int (x76_8 + Int32.ofInt 1)), (0, .ref a0), (1, .int p1), (2, .int p2), (3, .int p3), (4, .int v12), (5, .int x58_5), (6, .int x58_6), (7, .int x58_7)]) (st' := []) E b_c11_fresh_102_1 rfl ?_
                  refine j_goto (tgt := 76) E d_c11_fresh_105 (by decide) ?_
                  refine j_lv [1, 2, 3, 4, 5, 6, 7, 8, 0] rfl ?_
                  exact hI _ (g_inj hF)
            refine lpo19 FU (Int32.ofInt 0, s18) o19 ho19 ?_
            obtain ⟨t76, rfl⟩ : ∃ z, z = o19 := ⟨_, rfl⟩
            show J Γ 10 (HS κ A t76) 0 0 108 [(0, .ref a0), (1, .int p1), (2, .int p2), (3, .int p3), (4, .int v12), (5, .int x58_5), (6, .int x58_6), (7, .int x58_7)] []
            refine j_blk (pc' := 109) (lv' := [(0, .ref a0), (1, .int p1), (2, .int p2), (3, .int p3), (4, .int v12), (5, .int x58_5), (6, .int x58_6), (7, .int x58_7)]) (st' := [.ref a0]) E b_c11_fresh_108_1 rfl ?_
            replace hF := ocl_at hF
            obtain ⟨hc, hF⟩ := hF
            replace hF := obd_at hF
            obtain ⟨v25, he24, hF⟩ := hF
            refine j_callv [] [] E w_RX11_153 (hroom 3 3 (by decide) (by decide)) hAA (c11_isLawful _ κ A _ _  he24) (fun _ h => h) (fun _ _ _ h _ _ => h) (fun _ h => j_recv E h hc rfl) rfl rfl (Nat.le_of_ble_eq_true rfl) d_c11_fresh_109 ⟨Nat.zero_le _, Nat.zero_le _⟩ ?_
            refine j_blk (pc' := 115) (lv' := [(8, .int v25), (0, .ref a0), (1, .int p1), (2, .int p2), (3, .int p3), (4, .int v12), (5, .int x58_5), (6, .int x58_6), (7, .int x58_7)]) (st' := [.ref a0]) E b_c11_fresh_112_2 rfl ?_
            replace hF := ocl_at hF
            obtain ⟨hc, hF⟩ := hF
            replace hF := obd_at hF
            obtain ⟨s27, he26, hF⟩ := hF
            refine j_callv [] [] E w_RX11_180 (hroom 1 1 (by decide) (by decide)) hAA (c11_ends _ κ A _ _  he26) (fun _ h => h) (fun _ _ _ h _ _ => h) (fun _ h => j_recv E h hc rfl) rfl rfl (Nat.le_of_ble_eq_true rfl) d_c11_fresh_115 ⟨Nat.zero_le _, Nat.zero_le _⟩ ?_
            refine j_blk (pc' := 120) (lv' := [(8, .int v25), (0, .ref a0), (1, .int p1), (2, .int p2), (3, .int p3), (4, .int v12), (5, .int x58_5), (6, .int x58_6), (7, .int x58_7)]) (st' := [.int v25]) E b_c11_fresh_118_1 rfl ?_
            refine j_if_ne (tgt := 126) E d_c11_fresh_120 (by decide) (fun h28 => ?_) (fun h28 => ?_)
            · replace hF := g_f hF h28
              refine j_blk (pc' := 133) (lv' := [(5, .int (x58_5 + Int32.ofInt 1)), (8, .int v25), (0, .ref a0), (1, .int p1), (2, .int p2), (3, .int p3), (4, .int v12), (6, .int x58_6), (7, .int x58_7)]) (st' := [.int x58_7, .int v12]) E b_c11_fresh_126_3 rfl ?_
              replace hF := obd_at hF
              obtain ⟨v30, he29, hF⟩ := hF
              refine j_calls [.int x58_7] [.int v12] E w_RX11_67 (hroom 0 3 (by decide) (by decide)) hAA (c11_bits _ κ A (HS κ A s27) _  he29) (fun _ h => h) (fun _ _ _ h _ _ => h) rfl rfl (Nat.le_of_ble_eq_true rfl) d_c11_fresh_133 ⟨Nat.zero_le _, Nat.zero_le _⟩ ?_
              refine j_blk (pc' := 141) (lv' := [(9, .int (v12 - v30)), (5, .int (x58_5 + Int32.ofInt 1)), (8, .int v25), (0, .ref a0), (1, .int p1), (2, .int p2), (3, .int p3), (4, .int v12), (6, .int x58_6), (7, .int x58_7)]) (st' := [.int x58_6]) E b_c11_fresh_136_3 rfl ?_
              refine j_if_lt (tgt := 151) E d_c11_fresh_141 (by decide) (fun h31 => ?_) (fun h31 => ?_)
              · replace hF := g_t hF h31
                refine j_blk (pc' := 153) (lv' := [(9, .int (v12 - v30)), (5, .int (x58_5 + Int32.ofInt 1)), (8, .int v25), (0, .ref a0), (1, .int p1), (2, .int p2), (3, .int p3), (4, .int v12), (6, .int x58_6), (7, .int x58_7)]) (st' := [.int (v12 - v30)]) E b_c11_fresh_151_1 rfl ?_
                refine j_goto (tgt := 158) E d_c11_fresh_153 (by decide) ?_
                refine j_blk (pc' := 163) (lv' := [(7, .int (x58_7 + Int32.ofInt 1)), (6, .int (v12 - v30)), (9, .int (v12 - v30)), (5, .int (x58_5 + Int32.ofInt 1)), (8, .int v25), (0, .ref a0), (1, .int p1), (2, .int p2), (3, .int p3), (4, .int v12)]) (st' := []) E b_c11_fresh_158_2 rfl ?_
                refine j_goto (tgt := 58) E d_c11_fresh_163 (by decide) ?_
                refine j_lv [5, 6, 7, 8, 9, 3, 1, 0] rfl ?_
                exact hI _ (g_inj hF)
              · replace hF := g_f hF h31
                refine j_blk (pc' := 148) (lv' := [(9, .int (v12 - v30)), (5, .int (x58_5 + Int32.ofInt 1)), (8, .int v25), (0, .ref a0), (1, .int p1), (2, .int p2), (3, .int p3), (4, .int v12), (6, .int x58_6), (7, .int x58_7)]) (st' := [.int x58_6, .int (v12 - v30)]) E b_c11_fresh_144_2 rfl ?_
                refine j_icmp_ge (tgt := 156) E d_c11_fresh_148 (by decide) (fun h32 => ?_) (fun h32 => ?_)
                · replace hF := g_t hF h32
                  refine j_blk (pc' := 163) (lv' := [(7, .int (x58_7 + Int32.ofInt 1)), (6, .int x58_6), (9, .int (v12 - v30)), (5, .int (x58_5 + Int32.ofInt 1)), (8, .int v25), (0, .ref a0), (1, .int p1), (2, .int p2), (3, .int p3), (4, .int v12)]) (st' := []) E b_c11_fresh_156_3 rfl ?_
                  refine j_goto (tgt := 58) E d_c11_fresh_163 (by decide) ?_
                  refine j_lv [5, 6, 7, 8, 9, 3, 1, 0] rfl ?_
                  exact hI _ (g_inj hF)
                · replace hF := g_f hF h32
                  refine j_blk (pc' := 153) (lv' := [(9, .int (v12 - v30)), (5, .int (x58_5 + Int32.ofInt 1)), (8, .int v25), (0, .ref a0), (1, .int p1), (2, .int p2), (3, .int p3), (4, .int v12), (6, .int x58_6), (7, .int x58_7)]) (st' := [.int (v12 - v30)]) E b_c11_fresh_151_1 rfl ?_
                  refine j_goto (tgt := 158) E d_c11_fresh_153 (by decide) ?_
                  refine j_blk (pc' := 163) (lv' := [(7, .int (x58_7 + Int32.ofInt 1)), (6, .int (v12 - v30)), (9, .int (v12 - v30)), (5, .int (x58_5 + Int32.ofInt 1)), (8, .int v25), (0, .ref a0), (1, .int p1), (2, .int p2), (3, .int p3), (4, .int v12)]) (st' := []) E b_c11_fresh_158_2 rfl ?_
                  refine j_goto (tgt := 58) E d_c11_fresh_163 (by decide) ?_
                  refine j_lv [5, 6, 7, 8, 9, 3, 1, 0] rfl ?_
                  exact hI _ (g_inj hF)
            · replace hF := g_t hF h28
              refine j_goto (tgt := 160) E d_c11_fresh_123 (by decide) ?_
              refine j_blk (pc' := 163) (lv' := [(7, .int (x58_7 + Int32.ofInt 1)), (8, .int v25), (0, .ref a0), (1, .int p1), (2, .int p2), (3, .int p3), (4, .int v12), (5, .int x58_5), (6, .int x58_6)]) (st' := []) E b_c11_fresh_160_1 rfl ?_
              refine j_goto (tgt := 58) E d_c11_fresh_163 (by decide) ?_
              refine j_lv [2, 3, 4, 5, 6, 7, 8, 0] rfl ?_
              exact hI _ (g_inj hF)
        refine lpo15 FU (Int32.ofInt 0, (Int8.ofInt (-4)).toInt32, Int32.ofInt 0, s14) o15 ho15 ?_
        obtain ⟨e58_5, e58_6, t58⟩ := o15
        show J Γ 10 (HS κ A t58) 0 0 166 [(3, .int p3), (5, .int e58_5), (6, .int e58_6)] []
        refine j_blk (pc' := 167) (lv' := [(3, .int p3), (5, .int e58_5), (6, .int e58_6)]) (st' := [.int p3]) E b_c11_fresh_166_1 rfl ?_
        refine j_if_ne (tgt := 175) E d_c11_fresh_167 (by decide) (fun h33 => ?_) (fun h33 => ?_)
        · replace hF := g_f hF h33
          refine j_blk (pc' := 177) (lv' := [(3, .int p3), (5, .int e58_5), (6, .int e58_6)]) (st' := [.int e58_6]) E b_c11_fresh_175_1 rfl ?_
          have e : res = (e58_6, t58) := g_inj hF
          subst e
          exact j_iret E hQ d_c11_fresh_177 (fun _ h => h)
        · replace hF := g_t hF h33
          refine j_blk (pc' := 172) (lv' := [(3, .int p3), (5, .int e58_5), (6, .int e58_6)]) (st' := [.int e58_5]) E b_c11_fresh_170_1 rfl ?_
          refine j_goto (tgt := 177) E d_c11_fresh_172 (by decide) ?_
          have e : res = (e58_5, t58) := g_inj hF
          subst e
          exact j_iret E hQ d_c11_fresh_177 (fun _ h => h)
      · replace hF := g_t hF h9
        refine j_blk (pc' := 35) (lv' := [(0, .ref a0), (1, .int p1), (2, .int p2), (3, .int p3)]) (st' := [.int (Int32.ofInt (-1))]) E b_c11_fresh_34_1 rfl ?_
        have e : res = (Int32.ofInt (-1), s0) := g_inj hF
        subst e
        exact j_iret E hQ d_c11_fresh_35 (fun _ h => h)
theorem b_c11_leavers_0_3 : bdec cX11_leavers 0 [.iconst 0, .istore_n 1, .aload_n 0] = true := by decide +kernel
theorem d_c11_leavers_3 : decode cX11_leavers 3 = .ok (.getfield 9, 3) := by decide +kernel
theorem b_c11_leavers_6_1 : bdec cX11_leavers 6 [.iconst 0] = true := by decide +kernel
theorem d_c11_leavers_7 : decode cX11_leavers 7 = .ok (.iaload, 1) := by decide +kernel
theorem b_c11_leavers_8_2 : bdec cX11_leavers 8 [.istore_n 2, .aload_n 0] = true := by decide +kernel
theorem d_c11_leavers_10 : decode cX11_leavers 10 = .ok (.invokevirtual 177, 3) := by decide +kernel
theorem b_c11_leavers_13_2 : bdec cX11_leavers 13 [.iconst 0, .istore_n 3] = true := by decide +kernel
theorem b_c11_leavers_15_2 : bdec cX11_leavers 15 [.iload_n 3, .iload_n 2] = true := by decide +kernel
theorem d_c11_leavers_17 : decode cX11_leavers 17 = .ok (.if_icmp .ge 35, 3) := by decide +kernel
theorem b_c11_leavers_20_2 : bdec cX11_leavers 20 [.aload_n 0, .iload_n 3] = true := by decide +kernel
theorem d_c11_leavers_22 : decode cX11_leavers 22 = .ok (.invokevirtual 127, 3) := by decide +kernel
theorem b_c11_leavers_25_2 : bdec cX11_leavers 25 [.iload_n 1, .aload_n 0] = true := by decide +kernel
theorem d_c11_leavers_27 : decode cX11_leavers 27 = .ok (.invokevirtual 153, 3) := by decide +kernel
theorem d_c11_leavers_30 : decode cX11_leavers 30 = .ok (.ifCond .eq 9, 3) := by decide +kernel
theorem b_c11_leavers_39_4 : bdec cX11_leavers 39 [.iconst 0, .ior, .istore_n 1, .aload_n 0] = true := by decide +kernel
theorem d_c11_leavers_43 : decode cX11_leavers 43 = .ok (.invokevirtual 180, 3) := by decide +kernel
theorem b_c11_leavers_46_1 : bdec cX11_leavers 46 [.iinc 3 1] = true := by decide +kernel
theorem d_c11_leavers_49 : decode cX11_leavers 49 = .ok (.goto (-34), 3) := by decide +kernel
theorem b_c11_leavers_33_3 : bdec cX11_leavers 33 [.iconst 1, .iload_n 3, .ishl] = true := by decide +kernel
theorem d_c11_leavers_36 : decode cX11_leavers 36 = .ok (.goto 4, 3) := by decide +kernel
theorem b_c11_leavers_40_3 : bdec cX11_leavers 40 [.ior, .istore_n 1, .aload_n 0] = true := by decide +kernel
theorem b_c11_leavers_52_1 : bdec cX11_leavers 52 [.iload_n 1] = true := by decide +kernel
theorem d_c11_leavers_53 : decode cX11_leavers 53 = .ok (.ireturn, 1) := by decide +kernel
def f11_leavers_L15 (a0 : Nat) (v3 : Int32) (w : Int32 × Int32 × HM) : Option ((Int32 × Int32 × HM) ⊕ (Int32 × HM)) := match w with
  | (x15_1, x15_3, s15) => if v3 ≤ x15_3 then (some (.inr (x15_1, s15))) else (ocl s15 a0 11 (obd (f11_leaves s15 a0 x15_3) (fun s9 => ocl s9 a0 11 (obd (f11_isLawful s9 a0) (fun v11 => if v11 = 0 then (ocl s9 a0 11 (obd (f11_ends s9 a0) (fun s14 => some (.inl (x15_1 ||| (Int32.ofInt 0), x15_3 + Int32.ofInt 1, s14))))) else (ocl s9 a0 11 (obd (f11_ends s9 a0) (fun s16 => some (.inl (x15_1 ||| ((Int32.ofInt 1) <<< (x15_3 &&& 31)), x15_3 + Int32.ofInt 1, s16))))))))))
def f11_leavers (s0 : HM) (a0 : Nat) : Option (Int32 × HM) := obd (hfld s0 [11] 0 a0) (fun v1 => orf v1 (fun b2 => obd (hald s0 b2 (Int32.ofInt 0)) (fun v3 => ocl s0 a0 11 (obd (f11_begins s0 a0) (fun s5 => obd (iter (f11_leavers_L15 a0 v3) FU (Int32.ofInt 0, Int32.ofInt 0, s5)) (fun o6 => match o6 with | (e15_1, t15) => some (e15_1, t15)))))))
set_option maxRecDepth 100000 in
set_option maxHeartbeats 4000000 in
theorem c11_leavers (l : Launch) (κ : KP) (A : Nat → Prop) (s0 : HM) (a0 : Nat) {res : Int32 × HM} (hF : f11_leavers s0 a0 = some res) : Met l yX11_leavers (Cond.code yX11_leavers cX11_leavers 4 (some .int) :: WT) (rmL 4 0 0) (PP κ A [.ref a0] (HS κ A s0)) (QQ (some (.int res.1)) (HS κ A res.2) A) 0 0 A := by
  refine met_of (own := RX11) (by decide) rfl (Nat.le_of_ble_eq_true rfl) ?_
  intro Γ E hQ hL hR hA hent hini
  have hAA : ∀ q, A q → jA Γ q := fun q h => by rw [hA]; exact h
  have hroom : ∀ (d mL : Nat) {mc ms : Nat}, d < 4 → mL ≤ 21 → (rmL d mc ms).frames + 1 ≤ (jR Γ).frames ∧ 8 + (mL + 11) + (rmL d mc ms).locals ≤ (jR Γ).locals := fun d mL mc ms h1 h2 => by rw [hR]; exact rmL_le h1 h2
  show J Γ 4 (HS κ A s0) 0 0 0 [(0, .ref a0)] []
  unfold f11_leavers at hF
  refine j_blk (pc' := 3) (lv' := [(1, .int (Int32.ofInt 0)), (0, .ref a0)]) (st' := [.ref a0]) E b_c11_leavers_0_3 rfl ?_
  replace hF := obd_at hF
  obtain ⟨v1, ev1, hF⟩ := hF
  refine j_getf E fg_RX11_9 d_c11_leavers_3 ev1 ?_
  refine j_blk (pc' := 7) (lv' := [(1, .int (Int32.ofInt 0)), (0, .ref a0)]) (st' := [.int (Int32.ofInt 0), v1]) E b_c11_leavers_6_1 rfl ?_
  replace hF := orf_at hF
  obtain ⟨b2, rfl, hF⟩ := hF
  replace hF := obd_at hF
  obtain ⟨v3, ev3, hF⟩ := hF
  refine j_iald E d_c11_leavers_7 ev3 ?_
  refine j_blk (pc' := 10) (lv' := [(2, .int v3), (1, .int (Int32.ofInt 0)), (0, .ref a0)]) (st' := [.ref a0]) E b_c11_leavers_8_2 rfl ?_
  replace hF := ocl_at hF
  obtain ⟨hc, hF⟩ := hF
  replace hF := obd_at hF
  obtain ⟨s5, he4, hF⟩ := hF
  refine j_callv [] [] E w_RX11_177 (hroom 1 1 (by decide) (by decide)) hAA (c11_begins _ κ A _ _  he4) (fun _ h => h) (fun _ _ _ h _ _ => h) (fun _ h => j_recv E h hc rfl) rfl rfl (Nat.le_of_ble_eq_true rfl) d_c11_leavers_10 ⟨Nat.zero_le _, Nat.zero_le _⟩ ?_
  refine j_blk (pc' := 15) (lv' := [(3, .int (Int32.ofInt 0)), (2, .int v3), (1, .int (Int32.ofInt 0)), (0, .ref a0)]) (st' := []) E b_c11_leavers_13_2 rfl ?_
  refine j_lv [3, 2, 1, 0] rfl ?_
  replace hF := obd_at hF
  obtain ⟨o6, ho6, hF⟩ := hF
  have lpo6 : ∀ (fu : Nat) (w : Int32 × Int32 × HM) (o : Int32 × HM), iter (f11_leavers_L15 a0 v3) fu w = some o → (fun (o : Int32 × HM) => J Γ 4 (HS κ A o.2) 0 0 52 [(1, .int o.1)] []) o → (fun (w : Int32 × Int32 × HM) => J Γ 4 (HS κ A w.2.2) 0 0 15 [(0, .ref a0), (1, .int w.1), (2, .int v3), (3, .int w.2.1)] []) w := by
    refine j_iter (P := fun (w : Int32 × Int32 × HM) => J Γ 4 (HS κ A w.2.2) 0 0 15 [(0, .ref a0), (1, .int w.1), (2, .int v3), (3, .int w.2.1)] []) (G := fun (o : Int32 × HM) => J Γ 4 (HS κ A o.2) 0 0 52 [(1, .int o.1)] []) ?_
    rintro ⟨x15_1, x15_3, s15⟩ q hF hI hO
    show J Γ 4 (HS κ A s15) 0 0 15 [(0, .ref a0), (1, .int x15_1), (2, .int v3), (3, .int x15_3)] []
    unfold f11_leavers_L15 at hF
    refine j_blk (pc' := 17) (lv' := [(0, .ref a0), (1, .int x15_1), (2, .int v3), (3, .int x15_3)]) (st' := [.int v3, .int x15_3]) E b_c11_leavers_15_2 rfl ?_
    refine j_icmp_ge (tgt := 52) E d_c11_leavers_17 (by decide) (fun h7 => ?_) (fun h7 => ?_)
    · replace hF := g_t hF h7
      refine j_lv [1] rfl ?_
      exact hO _ (g_inj hF)
    · replace hF := g_f hF h7
      refine j_blk (pc' := 22) (lv' := [(0, .ref a0), (1, .int x15_1), (2, .int v3), (3, .int x15_3)]) (st' := [.int x15_3, .ref a0]) E b_c11_leavers_20_2 rfl ?_
      replace hF := ocl_at hF
      obtain ⟨hc, hF⟩ := hF
      replace hF := obd_at hF
      obtain ⟨s9, he8, hF⟩ := hF
      refine j_callv [.int x15_3] [] E w_RX11_127 (hroom 1 4 (by decide) (by decide)) hAA (c11_leaves _ κ A _ _ _  he8) (fun _ h => h) (fun _ _ _ h _ _ => h) (fun _ h => j_recv E h hc rfl) rfl rfl (Nat.le_of_ble_eq_true rfl) d_c11_leavers_22 ⟨Nat.zero_le _, Nat.zero_le _⟩ ?_
      refine j_blk (pc' := 27) (lv' := [(0, .ref a0), (1, .int x15_1), (2, .int v3), (3, .int x15_3)]) (st' := [.ref a0, .int x15_1]) E b_c11_leavers_25_2 rfl ?_
      replace hF := ocl_at hF
      obtain ⟨hc, hF⟩ := hF
      replace hF := obd_at hF
      obtain ⟨v11, he10, hF⟩ := hF
      refine j_callv [] [.int x15_1] E w_RX11_153 (hroom 3 3 (by decide) (by decide)) hAA (c11_isLawful _ κ A _ _  he10) (fun _ h => h) (fun _ _ _ h _ _ => h) (fun _ h => j_recv E h hc rfl) rfl rfl (Nat.le_of_ble_eq_true rfl) d_c11_leavers_27 ⟨Nat.zero_le _, Nat.zero_le _⟩ ?_
      refine j_if_eq (tgt := 39) E d_c11_leavers_30 (by decide) (fun h12 => ?_) (fun h12 => ?_)
      · replace hF := g_t hF h12
        refine j_blk (pc' := 43) (lv' := [(1, .int (x15_1 ||| (Int32.ofInt 0))), (0, .ref a0), (2, .int v3), (3, .int x15_3)]) (st' := [.ref a0]) E b_c11_leavers_39_4 rfl ?_
        replace hF := ocl_at hF
        obtain ⟨hc, hF⟩ := hF
        replace hF := obd_at hF
        obtain ⟨s14, he13, hF⟩ := hF
        refine j_callv [] [] E w_RX11_180 (hroom 1 1 (by decide) (by decide)) hAA (c11_ends _ κ A _ _  he13) (fun _ h => h) (fun _ _ _ h _ _ => h) (fun _ h => j_recv E h hc rfl) rfl rfl (Nat.le_of_ble_eq_true rfl) d_c11_leavers_43 ⟨Nat.zero_le _, Nat.zero_le _⟩ ?_
        refine j_blk (pc' := 49) (lv' := [(3, .int (x15_3 + Int32.ofInt 1)), (1, .int (x15_1 ||| (Int32.ofInt 0))), (0, .ref a0), (2, .int v3)]) (st' := []) E b_c11_leavers_46_1 rfl ?_
        refine j_goto (tgt := 15) E d_c11_leavers_49 (by decide) ?_
        refine j_lv [2, 1, 3, 0] rfl ?_
        exact hI _ (g_inj hF)
      · replace hF := g_f hF h12
        refine j_blk (pc' := 36) (lv' := [(0, .ref a0), (1, .int x15_1), (2, .int v3), (3, .int x15_3)]) (st' := [.int ((Int32.ofInt 1) <<< (x15_3 &&& 31)), .int x15_1]) E b_c11_leavers_33_3 rfl ?_
        refine j_goto (tgt := 40) E d_c11_leavers_36 (by decide) ?_
        refine j_blk (pc' := 43) (lv' := [(1, .int (x15_1 ||| ((Int32.ofInt 1) <<< (x15_3 &&& 31)))), (0, .ref a0), (2, .int v3), (3, .int x15_3)]) (st' := [.ref a0]) E b_c11_leavers_40_3 rfl ?_
        replace hF := ocl_at hF
        obtain ⟨hc, hF⟩ := hF
        replace hF := obd_at hF
        obtain ⟨s16, he15, hF⟩ := hF
        refine j_callv [] [] E w_RX11_180 (hroom 1 1 (by decide) (by decide)) hAA (c11_ends _ κ A _ _  he15) (fun _ h => h) (fun _ _ _ h _ _ => h) (fun _ h => j_recv E h hc rfl) rfl rfl (Nat.le_of_ble_eq_true rfl) d_c11_leavers_43 ⟨Nat.zero_le _, Nat.zero_le _⟩ ?_
        refine j_blk (pc' := 49) (lv' := [(3, .int (x15_3 + Int32.ofInt 1)), (1, .int (x15_1 ||| ((Int32.ofInt 1) <<< (x15_3 &&& 31)))), (0, .ref a0), (2, .int v3)]) (st' := []) E b_c11_leavers_46_1 rfl ?_
        refine j_goto (tgt := 15) E d_c11_leavers_49 (by decide) ?_
        refine j_lv [2, 1, 3, 0] rfl ?_
        exact hI _ (g_inj hF)
  refine lpo6 FU (Int32.ofInt 0, Int32.ofInt 0, s5) o6 ho6 ?_
  obtain ⟨e15_1, t15⟩ := o6
  show J Γ 4 (HS κ A t15) 0 0 52 [(1, .int e15_1)] []
  refine j_blk (pc' := 53) (lv' := [(1, .int e15_1)]) (st' := [.int e15_1]) E b_c11_leavers_52_1 rfl ?_
  have e : res = (e15_1, t15) := g_inj hF
  subst e
  exact j_iret E hQ d_c11_leavers_53 (fun _ h => h)
theorem b_c11_ways_0_3 : bdec cX11_ways 0 [.iload_n 1, .i2l, .lconst 1] = true := by decide +kernel
theorem d_c11_ways_3 : decode cX11_ways 3 = .ok (.ldc2_w 201, 3) := by decide +kernel
theorem d_c11_ways_6 : decode cX11_ways 6 = .ok (.invokestatic 49, 3) := by decide +kernel
theorem d_c11_ways_9 : decode cX11_ways 9 = .ok (.ifCond .eq 10, 3) := by decide +kernel
theorem b_c11_ways_19_1 : bdec cX11_ways 19 [.iconst (-1)] = true := by decide +kernel
theorem d_c11_ways_20 : decode cX11_ways 20 = .ok (.ireturn, 1) := by decide +kernel
theorem b_c11_ways_12_1 : bdec cX11_ways 12 [.iload_n 2] = true := by decide +kernel
theorem d_c11_ways_13 : decode cX11_ways 13 = .ok (.invokestatic 124, 3) := by decide +kernel
theorem d_c11_ways_16 : decode cX11_ways 16 = .ok (.ifCond .ne 5, 3) := by decide +kernel
theorem b_c11_ways_21_1 : bdec cX11_ways 21 [.aload_n 0] = true := by decide +kernel
theorem d_c11_ways_22 : decode cX11_ways 22 = .ok (.invokevirtual 177, 3) := by decide +kernel
theorem b_c11_ways_25_1 : bdec cX11_ways 25 [.aload_n 0] = true := by decide +kernel
theorem d_c11_ways_26 : decode cX11_ways 26 = .ok (.getfield 9, 3) := by decide +kernel
theorem b_c11_ways_29_2 : bdec cX11_ways 29 [.iconst 0, .iconst 0] = true := by decide +kernel
theorem d_c11_ways_31 : decode cX11_ways 31 = .ok (.iastore, 1) := by decide +kernel
theorem b_c11_ways_32_1 : bdec cX11_ways 32 [.aload_n 0] = true := by decide +kernel
theorem d_c11_ways_33 : decode cX11_ways 33 = .ok (.getfield 9, 3) := by decide +kernel
theorem b_c11_ways_36_2 : bdec cX11_ways 36 [.iconst 1, .iload_n 2] = true := by decide +kernel
theorem d_c11_ways_38 : decode cX11_ways 38 = .ok (.iastore, 1) := by decide +kernel
theorem b_c11_ways_39_2 : bdec cX11_ways 39 [.iconst 0, .istore_n 3] = true := by decide +kernel
theorem b_c11_ways_41_2 : bdec cX11_ways 41 [.iload_n 3, .iload_n 1] = true := by decide +kernel
theorem d_c11_ways_43 : decode cX11_ways 43 = .ok (.if_icmp .ge 15, 3) := by decide +kernel
theorem b_c11_ways_46_3 : bdec cX11_ways 46 [.aload_n 0, .iconst 0, .iconst 0] = true := by decide +kernel
theorem d_c11_ways_49 : decode cX11_ways 49 = .ok (.invokevirtual 114, 3) := by decide +kernel
theorem b_c11_ways_52_1 : bdec cX11_ways 52 [.iinc 3 1] = true := by decide +kernel
theorem d_c11_ways_55 : decode cX11_ways 55 = .ok (.goto (-14), 3) := by decide +kernel
theorem b_c11_ways_58_4 : bdec cX11_ways 58 [.iconst 0, .istore_n 3, .iconst 0, .istore 4] = true := by decide +kernel
theorem b_c11_ways_63_3 : bdec cX11_ways 63 [.iload 4, .iconst 1, .aload_n 0] = true := by decide +kernel
theorem d_c11_ways_67 : decode cX11_ways 67 = .ok (.invokevirtual 191, 3) := by decide +kernel
theorem b_c11_ways_70_1 : bdec cX11_ways 70 [.ishl] = true := by decide +kernel
theorem d_c11_ways_71 : decode cX11_ways 71 = .ok (.if_icmp .ge 30, 3) := by decide +kernel
theorem b_c11_ways_74_2 : bdec cX11_ways 74 [.aload_n 0, .iload 4] = true := by decide +kernel
theorem d_c11_ways_77 : decode cX11_ways 77 = .ok (.invokevirtual 194, 3) := by decide +kernel
theorem b_c11_ways_80_2 : bdec cX11_ways 80 [.iload_n 3, .aload_n 0] = true := by decide +kernel
theorem d_c11_ways_82 : decode cX11_ways 82 = .ok (.invokevirtual 153, 3) := by decide +kernel
theorem d_c11_ways_85 : decode cX11_ways 85 = .ok (.ifCond .eq 7, 3) := by decide +kernel
theorem b_c11_ways_92_4 : bdec cX11_ways 92 [.iconst 0, .iadd, .istore_n 3, .iinc 4 1] = true := by decide +kernel
theorem d_c11_ways_98 : decode cX11_ways 98 = .ok (.goto (-35), 3) := by decide +kernel
theorem b_c11_ways_88_1 : bdec cX11_ways 88 [.iconst 1] = true := by decide +kernel
theorem d_c11_ways_89 : decode cX11_ways 89 = .ok (.goto 4, 3) := by decide +kernel
theorem b_c11_ways_93_3 : bdec cX11_ways 93 [.iadd, .istore_n 3, .iinc 4 1] = true := by decide +kernel
theorem b_c11_ways_101_1 : bdec cX11_ways 101 [.aload_n 0] = true := by decide +kernel
theorem d_c11_ways_102 : decode cX11_ways 102 = .ok (.invokevirtual 180, 3) := by decide +kernel
theorem b_c11_ways_105_1 : bdec cX11_ways 105 [.iload_n 3] = true := by decide +kernel
theorem d_c11_ways_106 : decode cX11_ways 106 = .ok (.ireturn, 1) := by decide +kernel
def f11_ways_L41 (a0 : Nat) (p1 : Int32) (w : Int32 × HM) : Option ((Int32 × HM) ⊕ (HM)) := match w with
  | (x41_3, s41) => if p1 ≤ x41_3 then (some (.inr s41)) else (ocl s41 a0 11 (obd (f11_joins s41 a0 (Int32.ofInt 0) (Int32.ofInt 0)) (fun s18 => some (.inl (x41_3 + Int32.ofInt 1, s18)))))
def f11_ways_L63 (a0 : Nat) (w : Int32 × Int32 × HM) : Option ((Int32 × Int32 × HM) ⊕ (Int32 × HM)) := match w with
  | (x63_3, x63_4, s63) => ocl s63 a0 11 (obd (f11_matches s63 a0) (fun v21 => if ((Int32.ofInt 1) <<< (v21 &&& 31)) ≤ x63_4 then (some (.inr (x63_3, s63))) else (ocl s63 a0 11 (obd (f11_plays s63 a0 x63_4) (fun s24 => ocl s24 a0 11 (obd (f11_isLawful s24 a0) (fun v26 => if v26 = 0 then (some (.inl (x63_3 + (Int32.ofInt 0), x63_4 + Int32.ofInt 1, s24))) else (some (.inl (x63_3 + (Int32.ofInt 1), x63_4 + Int32.ofInt 1, s24))))))))))
def f11_ways (s0 : HM) (a0 : Nat) (p1 : Int32) (p2 : Int32) : Option (Int32 × HM) := obd (f11_isIn p1.toInt64 (Int64.ofNat 1) 5) (fun v2 => if v2 = 0 then (some (Int32.ofInt (-1), s0)) else (obd (f11_isLaw p2) (fun v5 => if v5 = 0 then (some (Int32.ofInt (-1), s0)) else (ocl s0 a0 11 (obd (f11_begins s0 a0) (fun s8 => obd (hfld s8 [11] 0 a0) (fun v9 => orf v9 (fun b10 => obd (hast s8 b10 (Int32.ofInt 0) (Int32.ofInt 0)) (fun s11 => obd (hfld s11 [11] 0 a0) (fun v12 => orf v12 (fun b13 => obd (hast s11 b13 (Int32.ofInt 1) p2) (fun s14 => obd (iter (f11_ways_L41 a0 p1) FU (Int32.ofInt 0, s14)) (fun o15 => match o15 with | t41 => obd (iter (f11_ways_L63 a0) FU (Int32.ofInt 0, Int32.ofInt 0, t41)) (fun o19 => match o19 with | (e63_3, t63) => ocl t63 a0 11 (obd (f11_ends t63 a0) (fun s29 => some (e63_3, s29)))))))))))))))))
set_option maxRecDepth 100000 in
set_option maxHeartbeats 4000000 in
theorem c11_ways (l : Launch) (κ : KP) (A : Nat → Prop) (s0 : HM) (a0 : Nat) (p1 : Int32) (p2 : Int32) {res : Int32 × HM} (hF : f11_ways s0 a0 p1 p2 = some res) : Met l yX11_ways (Cond.code yX11_ways cX11_ways 5 (some .int) :: WT) (rmL 4 0 0) (PP κ A [.ref a0, .int p1, .int p2] (HS κ A s0)) (QQ (some (.int res.1)) (HS κ A res.2) A) 0 0 A := by
  refine met_of (own := RX11) (by decide) rfl (Nat.le_of_ble_eq_true rfl) ?_
  intro Γ E hQ hL hR hA hent hini
  have hAA : ∀ q, A q → jA Γ q := fun q h => by rw [hA]; exact h
  have hroom : ∀ (d mL : Nat) {mc ms : Nat}, d < 4 → mL ≤ 21 → (rmL d mc ms).frames + 1 ≤ (jR Γ).frames ∧ 8 + (mL + 11) + (rmL d mc ms).locals ≤ (jR Γ).locals := fun d mL mc ms h1 h2 => by rw [hR]; exact rmL_le h1 h2
  show J Γ 5 (HS κ A s0) 0 0 0 [(0, .ref a0), (1, .int p1), (2, .int p2)] []
  unfold f11_ways at hF
  refine j_blk (pc' := 3) (lv' := [(0, .ref a0), (1, .int p1), (2, .int p2)]) (st' := [.long (Int64.ofNat 1), .long p1.toInt64]) E b_c11_ways_0_3 rfl ?_
  refine j_ldc2 (u := 5) E d_c11_ways_3 m_1084 ?_
  replace hF := obd_at hF
  obtain ⟨v2, he1, hF⟩ := hF
  refine j_calls [.long p1.toInt64, .long (Int64.ofNat 1), .long 5] [] E w_RX11_49 (hroom 0 6 (by decide) (by decide)) hAA (c11_isIn _ κ A (HS κ A s0) _ _ _  he1) (fun _ h => h) (fun _ _ _ h _ _ => h) rfl rfl (Nat.le_of_ble_eq_true rfl) d_c11_ways_6 ⟨Nat.zero_le _, Nat.zero_le _⟩ ?_
  refine j_if_eq (tgt := 19) E d_c11_ways_9 (by decide) (fun h3 => ?_) (fun h3 => ?_)
  · replace hF := g_t hF h3
    refine j_blk (pc' := 20) (lv' := [(0, .ref a0), (1, .int p1), (2, .int p2)]) (st' := [.int (Int32.ofInt (-1))]) E b_c11_ways_19_1 rfl ?_
    have e : res = (Int32.ofInt (-1), s0) := g_inj hF
    subst e
    exact j_iret E hQ d_c11_ways_20 (fun _ h => h)
  · replace hF := g_f hF h3
    refine j_blk (pc' := 13) (lv' := [(0, .ref a0), (1, .int p1), (2, .int p2)]) (st' := [.int p2]) E b_c11_ways_12_1 rfl ?_
    replace hF := obd_at hF
    obtain ⟨v5, he4, hF⟩ := hF
    refine j_calls [.int p2] [] E w_RX11_124 (hroom 1 1 (by decide) (by decide)) hAA (c11_isLaw _ κ A (HS κ A s0) _  he4) (fun _ h => h) (fun _ _ _ h _ _ => h) rfl rfl (Nat.le_of_ble_eq_true rfl) d_c11_ways_13 ⟨Nat.zero_le _, Nat.zero_le _⟩ ?_
    refine j_if_ne (tgt := 21) E d_c11_ways_16 (by decide) (fun h6 => ?_) (fun h6 => ?_)
    · replace hF := g_f hF h6
      refine j_blk (pc' := 22) (lv' := [(0, .ref a0), (1, .int p1), (2, .int p2)]) (st' := [.ref a0]) E b_c11_ways_21_1 rfl ?_
      replace hF := ocl_at hF
      obtain ⟨hc, hF⟩ := hF
      replace hF := obd_at hF
      obtain ⟨s8, he7, hF⟩ := hF
      refine j_callv [] [] E w_RX11_177 (hroom 1 1 (by decide) (by decide)) hAA (c11_begins _ κ A _ _  he7) (fun _ h => h) (fun _ _ _ h _ _ => h) (fun _ h => j_recv E h hc rfl) rfl rfl (Nat.le_of_ble_eq_true rfl) d_c11_ways_22 ⟨Nat.zero_le _, Nat.zero_le _⟩ ?_
      refine j_blk (pc' := 26) (lv' := [(0, .ref a0), (1, .int p1), (2, .int p2)]) (st' := [.ref a0]) E b_c11_ways_25_1 rfl ?_
      replace hF := obd_at hF
      obtain ⟨v9, ev9, hF⟩ := hF
      refine j_getf E fg_RX11_9 d_c11_ways_26 ev9 ?_
      refine j_blk (pc' := 31) (lv' := [(0, .ref a0), (1, .int p1), (2, .int p2)]) (st' := [.int (Int32.ofInt 0), .int (Int32.ofInt 0), v9]) E b_c11_ways_29_2 rfl ?_
      replace hF := orf_at hF
      obtain ⟨b10, rfl, hF⟩ := hF
      replace hF := obd_at hF
      obtain ⟨s11, es11, hF⟩ := hF
      refine j_iast E d_c11_ways_31 es11 hAA ?_
      refine j_blk (pc' := 33) (lv' := [(0, .ref a0), (1, .int p1), (2, .int p2)]) (st' := [.ref a0]) E b_c11_ways_32_1 rfl ?_
      replace hF := obd_at hF
      obtain ⟨v12, ev12, hF⟩ := hF
      refine j_getf E fg_RX11_9 d_c11_ways_33 ev12 ?_
      refine j_blk (pc' := 38) (lv' := [(0, .ref a0), (1, .int p1), (2, .int p2)]) (st' := [.int p2, .int (Int32.ofInt 1), v12]) E b_c11_ways_36_2 rfl ?_
      replace hF := orf_at hF
      obtain ⟨b13, rfl, hF⟩ := hF
      replace hF := obd_at hF
      obtain ⟨s14, es14, hF⟩ := hF
      refine j_iast E d_c11_ways_38 es14 hAA ?_
      refine j_blk (pc' := 41) (lv' := [(3, .int (Int32.ofInt 0)), (0, .ref a0), (1, .int p1), (2, .int p2)]) (st' := []) E b_c11_ways_39_2 rfl ?_
      refine j_lv [1, 2, 0] rfl ?_
      replace hF := obd_at hF
      obtain ⟨o15, ho15, hF⟩ := hF
      have lpo15 : ∀ (fu : Nat) (w : Int32 × HM) (o : HM), iter (f11_ways_L41 a0 p1) fu w = some o → (fun (o : HM) => J Γ 5 (HS κ A o) 0 0 58 [(0, .ref a0)] []) o → (fun (w : Int32 × HM) => J Γ 5 (HS κ A w.2) 0 0 41 [(0, .ref a0), (1, .int p1), (3, .int w.1)] []) w := by
        refine j_iter (P := fun (w : Int32 × HM) => J Γ 5 (HS κ A w.2) 0 0 41 [(0, .ref a0), (1, .int p1), (3, .int w.1)] []) (G := fun (o : HM) => J Γ 5 (HS κ A o) 0 0 58 [(0, .ref a0)] []) ?_
        rintro ⟨x41_3, s41⟩ q hF hI hO
        show J Γ 5 (HS κ A s41) 0 0 41 [(0, .ref a0), (1, .int p1), (3, .int x41_3)] []
        unfold f11_ways_L41 at hF
        refine j_blk (pc' := 43) (lv' := [(0, .ref a0), (1, .int p1), (3, .int x41_3)]) (st' := [.int p1, .int x41_3]) E b_c11_ways_41_2 rfl ?_
        refine j_icmp_ge (tgt := 58) E d_c11_ways_43 (by decide) (fun h16 => ?_) (fun h16 => ?_)
        · replace hF := g_t hF h16
          refine j_lv [0] rfl ?_
          exact hO _ (g_inj hF)
        · replace hF := g_f hF h16
          refine j_blk (pc' := 49) (lv' := [(0, .ref a0), (1, .int p1), (3, .int x41_3)]) (st' := [.int (Int32.ofInt 0), .int (Int32.ofInt 0), .ref a0]) E b_c11_ways_46_3 rfl ?_
          replace hF := ocl_at hF
          obtain ⟨hc, hF⟩ := hF
          replace hF := obd_at hF
          obtain ⟨s18, he17, hF⟩ := hF
          refine j_callv [.int (Int32.ofInt 0), .int (Int32.ofInt 0)] [] E w_RX11_114 (hroom 1 5 (by decide) (by decide)) hAA (c11_joins _ κ A _ _ _ _  he17) (fun _ h => h) (fun _ _ _ h _ _ => h) (fun _ h => j_recv E h hc rfl) rfl rfl (Nat.le_of_ble_eq_true rfl) d_c11_ways_49 ⟨Nat.zero_le _, Nat.zero_le _⟩ ?_
          refine j_blk (pc' := 55) (lv' := [(3, .int (x41_3 + Int32.ofInt 1)), (0, .ref a0), (1, .int p1)]) (st' := []) E b_c11_ways_52_1 rfl ?_
          refine j_goto (tgt := 41) E d_c11_ways_55 (by decide) ?_
          refine j_lv [1, 2, 0] rfl ?_
          exact hI _ (g_inj hF)
      refine lpo15 FU (Int32.ofInt 0, s14) o15 ho15 ?_
      obtain ⟨t41, rfl⟩ : ∃ z, z = o15 := ⟨_, rfl⟩
      show J Γ 5 (HS κ A t41) 0 0 58 [(0, .ref a0)] []
      refine j_blk (pc' := 63) (lv' := [(4, .int (Int32.ofInt 0)), (3, .int (Int32.ofInt 0)), (0, .ref a0)]) (st' := []) E b_c11_ways_58_4 rfl ?_
      refine j_lv [2, 1, 0] rfl ?_
      replace hF := obd_at hF
      obtain ⟨o19, ho19, hF⟩ := hF
      have lpo19 : ∀ (fu : Nat) (w : Int32 × Int32 × HM) (o : Int32 × HM), iter (f11_ways_L63 a0) fu w = some o → (fun (o : Int32 × HM) => J Γ 5 (HS κ A o.2) 0 0 101 [(0, .ref a0), (3, .int o.1)] []) o → (fun (w : Int32 × Int32 × HM) => J Γ 5 (HS κ A w.2.2) 0 0 63 [(0, .ref a0), (3, .int w.1), (4, .int w.2.1)] []) w := by
        refine j_iter (P := fun (w : Int32 × Int32 × HM) => J Γ 5 (HS κ A w.2.2) 0 0 63 [(0, .ref a0), (3, .int w.1), (4, .int w.2.1)] []) (G := fun (o : Int32 × HM) => J Γ 5 (HS κ A o.2) 0 0 101 [(0, .ref a0), (3, .int o.1)] []) ?_
        rintro ⟨x63_3, x63_4, s63⟩ q hF hI hO
        show J Γ 5 (HS κ A s63) 0 0 63 [(0, .ref a0), (3, .int x63_3), (4, .int x63_4)] []
        unfold f11_ways_L63 at hF
        refine j_blk (pc' := 67) (lv' := [(0, .ref a0), (3, .int x63_3), (4, .int x63_4)]) (st' := [.ref a0, .int (Int32.ofInt 1), .int x63_4]) E b_c11_ways_63_3 rfl ?_
        replace hF := ocl_at hF
        obtain ⟨hc, hF⟩ := hF
        replace hF := obd_at hF
        obtain ⟨v21, he20, hF⟩ := hF
        refine j_callv [] [.int (Int32.ofInt 1), .int x63_4] E w_RX11_191 (hroom 0 1 (by decide) (by decide)) hAA (c11_matches _ κ A _ _  he20) (fun _ h => h) (fun _ _ _ h _ _ => h) (fun _ h => j_recv E h hc rfl) rfl rfl (Nat.le_of_ble_eq_true rfl) d_c11_ways_67 ⟨Nat.zero_le _, Nat.zero_le _⟩ ?_
        refine j_blk (pc' := 71) (lv' := [(0, .ref a0), (3, .int x63_3), (4, .int x63_4)]) (st' := [.int ((Int32.ofInt 1) <<< (v21 &&& 31)), .int x63_4]) E b_c11_ways_70_1 rfl ?_
        refine j_icmp_ge (tgt := 101) E d_c11_ways_71 (by decide) (fun h22 => ?_) (fun h22 => ?_)
        · replace hF := g_t hF h22
          refine j_lv [0, 1] rfl ?_
          exact hO _ (g_inj hF)
        · replace hF := g_f hF h22
          refine j_blk (pc' := 77) (lv' := [(0, .ref a0), (3, .int x63_3), (4, .int x63_4)]) (st' := [.int x63_4, .ref a0]) E b_c11_ways_74_2 rfl ?_
          replace hF := ocl_at hF
          obtain ⟨hc, hF⟩ := hF
          replace hF := obd_at hF
          obtain ⟨s24, he23, hF⟩ := hF
          refine j_callv [.int x63_4] [] E w_RX11_194 (hroom 2 5 (by decide) (by decide)) hAA (c11_plays _ κ A _ _ _  he23) (fun _ h => h) (fun _ _ _ h _ _ => h) (fun _ h => j_recv E h hc rfl) rfl rfl (Nat.le_of_ble_eq_true rfl) d_c11_ways_77 ⟨Nat.zero_le _, Nat.zero_le _⟩ ?_
          refine j_blk (pc' := 82) (lv' := [(0, .ref a0), (3, .int x63_3), (4, .int x63_4)]) (st' := [.ref a0, .int x63_3]) E b_c11_ways_80_2 rfl ?_
          replace hF := ocl_at hF
          obtain ⟨hc, hF⟩ := hF
          replace hF := obd_at hF
          obtain ⟨v26, he25, hF⟩ := hF
          refine j_callv [] [.int x63_3] E w_RX11_153 (hroom 3 3 (by decide) (by decide)) hAA (c11_isLawful _ κ A _ _  he25) (fun _ h => h) (fun _ _ _ h _ _ => h) (fun _ h => j_recv E h hc rfl) rfl rfl (Nat.le_of_ble_eq_true rfl) d_c11_ways_82 ⟨Nat.zero_le _, Nat.zero_le _⟩ ?_
          refine j_if_eq (tgt := 92) E d_c11_ways_85 (by decide) (fun h27 => ?_) (fun h27 => ?_)
          · replace hF := g_t hF h27
            refine j_blk (pc' := 98) (lv' := [(4, .int (x63_4 + Int32.ofInt 1)), (3, .int (x63_3 + (Int32.ofInt 0))), (0, .ref a0)]) (st' := []) E b_c11_ways_92_4 rfl ?_
            refine j_goto (tgt := 63) E d_c11_ways_98 (by decide) ?_
            refine j_lv [2, 1, 0] rfl ?_
            exact hI _ (g_inj hF)
          · replace hF := g_f hF h27
            refine j_blk (pc' := 89) (lv' := [(0, .ref a0), (3, .int x63_3), (4, .int x63_4)]) (st' := [.int (Int32.ofInt 1), .int x63_3]) E b_c11_ways_88_1 rfl ?_
            refine j_goto (tgt := 93) E d_c11_ways_89 (by decide) ?_
            refine j_blk (pc' := 98) (lv' := [(4, .int (x63_4 + Int32.ofInt 1)), (3, .int (x63_3 + (Int32.ofInt 1))), (0, .ref a0)]) (st' := []) E b_c11_ways_93_3 rfl ?_
            refine j_goto (tgt := 63) E d_c11_ways_98 (by decide) ?_
            refine j_lv [2, 1, 0] rfl ?_
            exact hI _ (g_inj hF)
      refine lpo19 FU (Int32.ofInt 0, Int32.ofInt 0, t41) o19 ho19 ?_
      obtain ⟨e63_3, t63⟩ := o19
      show J Γ 5 (HS κ A t63) 0 0 101 [(0, .ref a0), (3, .int e63_3)] []
      refine j_blk (pc' := 102) (lv' := [(0, .ref a0), (3, .int e63_3)]) (st' := [.ref a0]) E b_c11_ways_101_1 rfl ?_
      replace hF := ocl_at hF
      obtain ⟨hc, hF⟩ := hF
      replace hF := obd_at hF
      obtain ⟨s29, he28, hF⟩ := hF
      refine j_callv [] [] E w_RX11_180 (hroom 1 1 (by decide) (by decide)) hAA (c11_ends _ κ A _ _  he28) (fun _ h => h) (fun _ _ _ h _ _ => h) (fun _ h => j_recv E h hc rfl) rfl rfl (Nat.le_of_ble_eq_true rfl) d_c11_ways_102 ⟨Nat.zero_le _, Nat.zero_le _⟩ ?_
      refine j_blk (pc' := 106) (lv' := [(0, .ref a0), (3, .int e63_3)]) (st' := [.int e63_3]) E b_c11_ways_105_1 rfl ?_
      have e : res = (e63_3, s29) := g_inj hF
      subst e
      exact j_iret E hQ d_c11_ways_106 (fun _ h => h)
    · replace hF := g_t hF h6
      refine j_blk (pc' := 20) (lv' := [(0, .ref a0), (1, .int p1), (2, .int p2)]) (st' := [.int (Int32.ofInt (-1))]) E b_c11_ways_19_1 rfl ?_
      have e : res = (Int32.ofInt (-1), s0) := g_inj hF
      subst e
      exact j_iret E hQ d_c11_ways_20 (fun _ h => h)
theorem b_c11_played_0_1 : bdec cX11_played 0 [.iload_n 1] = true := by decide +kernel
theorem d_c11_played_1 : decode cX11_played 1 = .ok (.invokestatic 131, 3) := by decide +kernel
theorem d_c11_played_4 : decode cX11_played 4 = .ok (.ifCond .ne 7, 3) := by decide +kernel
theorem b_c11_played_32_2 : bdec cX11_played 32 [.istore_n 2, .iload_n 2] = true := by decide +kernel
theorem d_c11_played_34 : decode cX11_played 34 = .ok (.ifCond .ne 17, 3) := by decide +kernel
theorem b_c11_played_51_2 : bdec cX11_played 51 [.iconst 0, .istore_n 3] = true := by decide +kernel
theorem b_c11_played_53_1 : bdec cX11_played 53 [.iload_n 2] = true := by decide +kernel
theorem d_c11_played_54 : decode cX11_played 54 = .ok (.ifCond .ne 47, 3) := by decide +kernel
theorem b_c11_played_57_2 : bdec cX11_played 57 [.iload_n 3, .aload_n 0] = true := by decide +kernel
theorem d_c11_played_59 : decode cX11_played 59 = .ok (.getfield 28, 3) := by decide +kernel
theorem b_c11_played_62_1 : bdec cX11_played 62 [.iload_n 1] = true := by decide +kernel
theorem d_c11_played_63 : decode cX11_played 63 = .ok (.iaload, 1) := by decide +kernel
theorem d_c11_played_64 : decode cX11_played 64 = .ok (.if_icmp .ge 37, 3) := by decide +kernel
theorem b_c11_played_67_4 : bdec cX11_played 67 [.aload_n 0, .aload_n 0, .iload_n 1, .iload_n 3] = true := by decide +kernel
theorem d_c11_played_71 : decode cX11_played 71 = .ok (.invokevirtual 220, 3) := by decide +kernel
theorem b_c11_played_74_5 : bdec cX11_played 74 [.aload_n 0, .iload_n 1, .iload_n 3, .iconst 1, .iadd] = true := by decide +kernel
theorem d_c11_played_79 : decode cX11_played 79 = .ok (.invokevirtual 220, 3) := by decide +kernel
theorem d_c11_played_82 : decode cX11_played 82 = .ok (.invokevirtual 121, 3) := by decide +kernel
theorem d_c11_played_85 : decode cX11_played 85 = .ok (.ifCond .eq 7, 3) := by decide +kernel
theorem b_c11_played_92_3 : bdec cX11_played 92 [.bipush (-13), .istore_n 2, .iinc 3 2] = true := by decide +kernel
theorem d_c11_played_98 : decode cX11_played 98 = .ok (.goto (-45), 3) := by decide +kernel
theorem b_c11_played_88_1 : bdec cX11_played 88 [.iconst 0] = true := by decide +kernel
theorem d_c11_played_89 : decode cX11_played 89 = .ok (.goto 5, 3) := by decide +kernel
theorem b_c11_played_94_2 : bdec cX11_played 94 [.istore_n 2, .iinc 3 2] = true := by decide +kernel
theorem b_c11_played_101_1 : bdec cX11_played 101 [.iload_n 2] = true := by decide +kernel
theorem d_c11_played_102 : decode cX11_played 102 = .ok (.ifCond .eq 5, 3) := by decide +kernel
theorem b_c11_played_107_3 : bdec cX11_played 107 [.iconst 0, .istore_n 3, .aload_n 0] = true := by decide +kernel
theorem d_c11_played_110 : decode cX11_played 110 = .ok (.invokevirtual 177, 3) := by decide +kernel
theorem b_c11_played_113_2 : bdec cX11_played 113 [.iconst 0, .istore 4] = true := by decide +kernel
theorem b_c11_played_116_3 : bdec cX11_played 116 [.iload 4, .iconst 1, .aload_n 0] = true := by decide +kernel
theorem d_c11_played_120 : decode cX11_played 120 = .ok (.invokevirtual 191, 3) := by decide +kernel
theorem b_c11_played_123_1 : bdec cX11_played 123 [.ishl] = true := by decide +kernel
theorem d_c11_played_124 : decode cX11_played 124 = .ok (.if_icmp .ge 38, 3) := by decide +kernel
theorem b_c11_played_127_2 : bdec cX11_played 127 [.aload_n 0, .iload 4] = true := by decide +kernel
theorem d_c11_played_130 : decode cX11_played 130 = .ok (.invokevirtual 194, 3) := by decide +kernel
theorem b_c11_played_133_3 : bdec cX11_played 133 [.iload_n 3, .aload_n 0, .iload_n 1] = true := by decide +kernel
theorem d_c11_played_136 : decode cX11_played 136 = .ok (.invokevirtual 223, 3) := by decide +kernel
theorem d_c11_played_139 : decode cX11_played 139 = .ok (.ifCond .eq 14, 3) := by decide +kernel
theorem b_c11_played_153_4 : bdec cX11_played 153 [.iconst 0, .iadd, .istore_n 3, .iinc 4 1] = true := by decide +kernel
theorem d_c11_played_159 : decode cX11_played 159 = .ok (.goto (-43), 3) := by decide +kernel
theorem b_c11_played_142_1 : bdec cX11_played 142 [.aload_n 0] = true := by decide +kernel
theorem d_c11_played_143 : decode cX11_played 143 = .ok (.invokevirtual 153, 3) := by decide +kernel
theorem d_c11_played_146 : decode cX11_played 146 = .ok (.ifCond .eq 7, 3) := by decide +kernel
theorem b_c11_played_149_1 : bdec cX11_played 149 [.iconst 1] = true := by decide +kernel
theorem d_c11_played_150 : decode cX11_played 150 = .ok (.goto 4, 3) := by decide +kernel
theorem b_c11_played_154_3 : bdec cX11_played 154 [.iadd, .istore_n 3, .iinc 4 1] = true := by decide +kernel
theorem b_c11_played_162_1 : bdec cX11_played 162 [.aload_n 0] = true := by decide +kernel
theorem d_c11_played_163 : decode cX11_played 163 = .ok (.invokevirtual 180, 3) := by decide +kernel
theorem b_c11_played_166_1 : bdec cX11_played 166 [.iload_n 3] = true := by decide +kernel
theorem d_c11_played_167 : decode cX11_played 167 = .ok (.ireturn, 1) := by decide +kernel
theorem b_c11_played_105_1 : bdec cX11_played 105 [.iload_n 2] = true := by decide +kernel
theorem d_c11_played_106 : decode cX11_played 106 = .ok (.ireturn, 1) := by decide +kernel
theorem b_c11_played_37_1 : bdec cX11_played 37 [.aload_n 0] = true := by decide +kernel
theorem d_c11_played_38 : decode cX11_played 38 = .ok (.getfield 28, 3) := by decide +kernel
theorem b_c11_played_41_1 : bdec cX11_played 41 [.iload_n 1] = true := by decide +kernel
theorem d_c11_played_42 : decode cX11_played 42 = .ok (.iaload, 1) := by decide +kernel
theorem b_c11_played_43_1 : bdec cX11_played 43 [.iconst 2] = true := by decide +kernel
theorem d_c11_played_44 : decode cX11_played 44 = .ok (.irem, 1) := by decide +kernel
theorem d_c11_played_45 : decode cX11_played 45 = .ok (.ifCond .eq 6, 3) := by decide +kernel
theorem b_c11_played_48_2 : bdec cX11_played 48 [.bipush (-13), .istore_n 2] = true := by decide +kernel
theorem b_c11_played_11_1 : bdec cX11_played 11 [.aload_n 0] = true := by decide +kernel
theorem d_c11_played_12 : decode cX11_played 12 = .ok (.getfield 9, 3) := by decide +kernel
theorem b_c11_played_15_1 : bdec cX11_played 15 [.iconst 0] = true := by decide +kernel
theorem d_c11_played_16 : decode cX11_played 16 = .ok (.iaload, 1) := by decide +kernel
theorem b_c11_played_17_1 : bdec cX11_played 17 [.iconst 5] = true := by decide +kernel
theorem d_c11_played_18 : decode cX11_played 18 = .ok (.if_icmp .le 8, 3) := by decide +kernel
theorem b_c11_played_26_3 : bdec cX11_played 26 [.aload_n 0, .iload_n 1, .iconst 0] = true := by decide +kernel
theorem d_c11_played_29 : decode cX11_played 29 = .ok (.invokevirtual 134, 3) := by decide +kernel
theorem b_c11_played_21_1 : bdec cX11_played 21 [.bipush (-3)] = true := by decide +kernel
theorem d_c11_played_23 : decode cX11_played 23 = .ok (.goto 9, 3) := by decide +kernel
theorem b_c11_played_7_1 : bdec cX11_played 7 [.iconst (-1)] = true := by decide +kernel
theorem d_c11_played_8 : decode cX11_played 8 = .ok (.goto 24, 3) := by decide +kernel
def f11_played_L53 (s0 : HM) (a0 : Nat) (p1 : Int32) (w : Int32 × Int32) : Option ((Int32 × Int32) ⊕ (Int32)) := match w with
  | (x53_2, x53_3) => if x53_2 = 0 then (obd (hfld s0 [11] 6 a0) (fun v5 => orf v5 (fun b6 => obd (hald s0 b6 p1) (fun v7 => if v7 ≤ x53_3 then (some (.inr x53_2)) else (ocl s0 a0 11 (obd (f11_told s0 a0 p1 x53_3) (fun v10 => ocl s0 a0 11 (obd (f11_told s0 a0 p1 (x53_3 + (Int32.ofInt 1))) (fun v12 => ocl s0 a0 11 (obd (f11_areTwo s0 a0 v10 v12) (fun v14 => if v14 = 0 then (some (.inl ((Int8.ofInt (-13)).toInt32, x53_3 + Int32.ofInt 2))) else (some (.inl (Int32.ofInt 0, x53_3 + Int32.ofInt 2)))))))))))))) else (some (.inr x53_2))
def f11_played_L116 (a0 : Nat) (p1 : Int32) (w : Int32 × Int32 × HM) : Option ((Int32 × Int32 × HM) ⊕ (Int32 × HM)) := match w with
  | (x116_3, x116_4, s116) => ocl s116 a0 11 (obd (f11_matches s116 a0) (fun v21 => if ((Int32.ofInt 1) <<< (v21 &&& 31)) ≤ x116_4 then (some (.inr (x116_3, s116))) else (ocl s116 a0 11 (obd (f11_plays s116 a0 x116_4) (fun s24 => ocl s24 a0 11 (obd (f11_isAsPlayed s24 a0 p1) (fun v26 => if v26 = 0 then (some (.inl (x116_3 + (Int32.ofInt 0), x116_4 + Int32.ofInt 1, s24))) else (ocl s24 a0 11 (obd (f11_isLawful s24 a0) (fun v29 => if v29 = 0 then (some (.inl (x116_3 + (Int32.ofInt 0), x116_4 + Int32.ofInt 1, s24))) else (some (.inl (x116_3 + (Int32.ofInt 1), x116_4 + Int32.ofInt 1, s24)))))))))))))
def f11_played_K51 (s0 : HM) (a0 : Nat) (p1 : Int32) (k51_2 : Int32) : Option (Int32 × HM) := obd (iter (f11_played_L53 s0 a0 p1) FU (k51_2, Int32.ofInt 0)) (fun o3 => match o3 with | e53_2 => if e53_2 = 0 then (ocl s0 a0 11 (obd (f11_begins s0 a0) (fun s18 => obd (iter (f11_played_L116 a0 p1) FU (Int32.ofInt 0, Int32.ofInt 0, s18)) (fun o19 => match o19 with | (e116_3, t116) => ocl t116 a0 11 (obd (f11_ends t116 a0) (fun s32 => some (e116_3, s32))))))) else (some (e53_2, s0)))
def f11_played_K32 (s0 : HM) (a0 : Nat) (p1 : Int32) (k32_t0 : Int32) : Option (Int32 × HM) := if k32_t0 = 0 then (obd (hfld s0 [11] 6 a0) (fun v34 => orf v34 (fun b35 => obd (hald s0 b35 p1) (fun v36 => onz (Int32.ofInt 2) (if (v36 - v36 / (Int32.ofInt 2) * (Int32.ofInt 2)) = 0 then (f11_played_K51 s0 a0 p1 k32_t0) else (f11_played_K51 s0 a0 p1 ((Int8.ofInt (-13)).toInt32))))))) else (f11_played_K51 s0 a0 p1 k32_t0)
def f11_played (s0 : HM) (a0 : Nat) (p1 : Int32) : Option (Int32 × HM) := obd (f11_isShelf p1) (fun v2 => if v2 = 0 then (f11_played_K32 s0 a0 p1 (Int32.ofInt (-1))) else (obd (hfld s0 [11] 0 a0) (fun v39 => orf v39 (fun b40 => obd (hald s0 b40 (Int32.ofInt 0)) (fun v41 => if v41 ≤ (Int32.ofInt 5) then (ocl s0 a0 11 (obd (f11_wrongRow s0 a0 p1 (Int32.ofInt 0)) (fun v44 => f11_played_K32 s0 a0 p1 v44))) else (f11_played_K32 s0 a0 p1 ((Int8.ofInt (-3)).toInt32)))))))
set_option maxRecDepth 100000 in
set_option maxHeartbeats 4000000 in
theorem c11_played (l : Launch) (κ : KP) (A : Nat → Prop) (s0 : HM) (a0 : Nat) (p1 : Int32) {res : Int32 × HM} (hF : f11_played s0 a0 p1 = some res) : Met l yX11_played (Cond.code yX11_played cX11_played 5 (some .int) :: WT) (rmL 4 0 0) (PP κ A [.ref a0, .int p1] (HS κ A s0)) (QQ (some (.int res.1)) (HS κ A res.2) A) 0 0 A := by
  refine met_of (own := RX11) (by decide) rfl (Nat.le_of_ble_eq_true rfl) ?_
  intro Γ E hQ hL hR hA hent hini
  have hAA : ∀ q, A q → jA Γ q := fun q h => by rw [hA]; exact h
  have hroom : ∀ (d mL : Nat) {mc ms : Nat}, d < 4 → mL ≤ 21 → (rmL d mc ms).frames + 1 ≤ (jR Γ).frames ∧ 8 + (mL + 11) + (rmL d mc ms).locals ≤ (jR Γ).locals := fun d mL mc ms h1 h2 => by rw [hR]; exact rmL_le h1 h2
  show J Γ 5 (HS κ A s0) 0 0 0 [(0, .ref a0), (1, .int p1)] []
  unfold f11_played at hF
  refine j_blk (pc' := 1) (lv' := [(0, .ref a0), (1, .int p1)]) (st' := [.int p1]) E b_c11_played_0_1 rfl ?_
  replace hF := obd_at hF
  obtain ⟨v2, he1, hF⟩ := hF
  refine j_calls [.int p1] [] E w_RX11_131 (hroom 1 1 (by decide) (by decide)) hAA (c11_isShelf _ κ A (HS κ A s0) _  he1) (fun _ h => h) (fun _ _ _ h _ _ => h) rfl rfl (Nat.le_of_ble_eq_true rfl) d_c11_played_1 ⟨Nat.zero_le _, Nat.zero_le _⟩ ?_
  have kp32 : ∀ (k32_t0 : Int32), f11_played_K32 s0 a0 p1 k32_t0 = some res → J Γ 5 (HS κ A s0) 0 0 32 [(0, .ref a0), (1, .int p1)] [.int k32_t0] := by
    intro k32_t0 hF
    unfold f11_played_K32 at hF
    refine j_blk (pc' := 34) (lv' := [(2, .int k32_t0), (0, .ref a0), (1, .int p1)]) (st' := [.int k32_t0]) E b_c11_played_32_2 rfl ?_
    have kp51 : ∀ (k51_2 : Int32), f11_played_K51 s0 a0 p1 k51_2 = some res → J Γ 5 (HS κ A s0) 0 0 51 [(0, .ref a0), (1, .int p1), (2, .int k51_2)] [] := by
      intro k51_2 hF
      unfold f11_played_K51 at hF
      refine j_blk (pc' := 53) (lv' := [(3, .int (Int32.ofInt 0)), (0, .ref a0), (1, .int p1), (2, .int k51_2)]) (st' := []) E b_c11_played_51_2 rfl ?_
      refine j_lv [1, 2, 3, 0] rfl ?_
      replace hF := obd_at hF
      obtain ⟨o3, ho3, hF⟩ := hF
      have lpo3 : ∀ (fu : Nat) (w : Int32 × Int32) (o : Int32), iter (f11_played_L53 s0 a0 p1) fu w = some o → (fun (o : Int32) => J Γ 5 (HS κ A s0) 0 0 101 [(0, .ref a0), (1, .int p1), (2, .int o)] []) o → (fun (w : Int32 × Int32) => J Γ 5 (HS κ A s0) 0 0 53 [(0, .ref a0), (1, .int p1), (2, .int w.1), (3, .int w.2)] []) w := by
        refine j_iter (P := fun (w : Int32 × Int32) => J Γ 5 (HS κ A s0) 0 0 53 [(0, .ref a0), (1, .int p1), (2, .int w.1), (3, .int w.2)] []) (G := fun (o : Int32) => J Γ 5 (HS κ A s0) 0 0 101 [(0, .ref a0), (1, .int p1), (2, .int o)] []) ?_
        rintro ⟨x53_2, x53_3⟩ q hF hI hO
        show J Γ 5 (HS κ A s0) 0 0 53 [(0, .ref a0), (1, .int p1), (2, .int x53_2), (3, .int x53_3)] []
        unfold f11_played_L53 at hF
        refine j_blk (pc' := 54) (lv' := [(0, .ref a0), (1, .int p1), (2, .int x53_2), (3, .int x53_3)]) (st' := [.int x53_2]) E b_c11_played_53_1 rfl ?_
        refine j_if_ne (tgt := 101) E d_c11_played_54 (by decide) (fun h4 => ?_) (fun h4 => ?_)
        · replace hF := g_f hF h4
          refine j_lv [0, 1, 2] rfl ?_
          exact hO _ (g_inj hF)
        · replace hF := g_t hF h4
          refine j_blk (pc' := 59) (lv' := [(0, .ref a0), (1, .int p1), (2, .int x53_2), (3, .int x53_3)]) (st' := [.ref a0, .int x53_3]) E b_c11_played_57_2 rfl ?_
          replace hF := obd_at hF
          obtain ⟨v5, ev5, hF⟩ := hF
          refine j_getf E fg_RX11_28 d_c11_played_59 ev5 ?_
          refine j_blk (pc' := 63) (lv' := [(0, .ref a0), (1, .int p1), (2, .int x53_2), (3, .int x53_3)]) (st' := [.int p1, v5, .int x53_3]) E b_c11_played_62_1 rfl ?_
          replace hF := orf_at hF
          obtain ⟨b6, rfl, hF⟩ := hF
          replace hF := obd_at hF
          obtain ⟨v7, ev7, hF⟩ := hF
          refine j_iald E d_c11_played_63 ev7 ?_
          refine j_icmp_ge (tgt := 101) E d_c11_played_64 (by decide) (fun h8 => ?_) (fun h8 => ?_)
          · replace hF := g_t hF h8
            refine j_lv [0, 1, 2] rfl ?_
            exact hO _ (g_inj hF)
          · replace hF := g_f hF h8
            refine j_blk (pc' := 71) (lv' := [(0, .ref a0), (1, .int p1), (2, .int x53_2), (3, .int x53_3)]) (st' := [.int x53_3, .int p1, .ref a0, .ref a0]) E b_c11_played_67_4 rfl ?_
            replace hF := ocl_at hF
            obtain ⟨hc, hF⟩ := hF
            replace hF := obd_at hF
            obtain ⟨v10, he9, hF⟩ := hF
            refine j_callv [.int p1, .int x53_3] [.ref a0] E w_RX11_220 (hroom 0 3 (by decide) (by decide)) hAA (c11_told _ κ A _ _ _ _  he9) (fun _ h => h) (fun _ _ _ h _ _ => h) (fun _ h => j_recv E h hc rfl) rfl rfl (Nat.le_of_ble_eq_true rfl) d_c11_played_71 ⟨Nat.zero_le _, Nat.zero_le _⟩ ?_
            refine j_blk (pc' := 79) (lv' := [(0, .ref a0), (1, .int p1), (2, .int x53_2), (3, .int x53_3)]) (st' := [.int (x53_3 + (Int32.ofInt 1)), .int p1, .ref a0, .int v10, .ref a0]) E b_c11_played_74_5 rfl ?_
            replace hF := ocl_at hF
            obtain ⟨hc, hF⟩ := hF
            replace hF := obd_at hF
            obtain ⟨v12, he11, hF⟩ := hF
            refine j_callv [.int p1, .int (x53_3 + (Int32.ofInt 1))] [.int v10, .ref a0] E w_RX11_220 (hroom 0 3 (by decide) (by decide)) hAA (c11_told _ κ A _ _ _ _  he11) (fun _ h => h) (fun _ _ _ h _ _ => h) (fun _ h => j_recv E h hc rfl) rfl rfl (Nat.le_of_ble_eq_true rfl) d_c11_played_79 ⟨Nat.zero_le _, Nat.zero_le _⟩ ?_
            replace hF := ocl_at hF
            obtain ⟨hc, hF⟩ := hF
            replace hF := obd_at hF
            obtain ⟨v14, he13, hF⟩ := hF
            refine j_callv [.int v10, .int v12] [] E w_RX11_121 (hroom 2 3 (by decide) (by decide)) hAA (c11_areTwo _ κ A _ _ _ _  he13) (fun _ h => h) (fun _ _ _ h _ _ => h) (fun _ h => j_recv E h hc rfl) rfl rfl (Nat.le_of_ble_eq_true rfl) d_c11_played_82 ⟨Nat.zero_le _, Nat.zero_le _⟩ ?_
            refine j_if_eq (tgt := 92) E d_c11_played_85 (by decide) (fun h15 => ?_) (fun h15 => ?_)
            · replace hF := g_t hF h15
              refine j_blk (pc' := 98) (lv' := [(3, .int (x53_3 + Int32.ofInt 2)), (2, .int ((Int8.ofInt (-13)).toInt32)), (0, .ref a0), (1, .int p1)]) (st' := []) E b_c11_played_92_3 rfl ?_
              refine j_goto (tgt := 53) E d_c11_played_98 (by decide) ?_
              refine j_lv [2, 3, 1, 0] rfl ?_
              exact hI _ (g_inj hF)
            · replace hF := g_f hF h15
              refine j_blk (pc' := 89) (lv' := [(0, .ref a0), (1, .int p1), (2, .int x53_2), (3, .int x53_3)]) (st' := [.int (Int32.ofInt 0)]) E b_c11_played_88_1 rfl ?_
              refine j_goto (tgt := 94) E d_c11_played_89 (by decide) ?_
              refine j_blk (pc' := 98) (lv' := [(3, .int (x53_3 + Int32.ofInt 2)), (2, .int (Int32.ofInt 0)), (0, .ref a0), (1, .int p1)]) (st' := []) E b_c11_played_94_2 rfl ?_
              refine j_goto (tgt := 53) E d_c11_played_98 (by decide) ?_
              refine j_lv [2, 3, 1, 0] rfl ?_
              exact hI _ (g_inj hF)
      refine lpo3 FU (k51_2, Int32.ofInt 0) o3 ho3 ?_
      obtain ⟨e53_2, rfl⟩ : ∃ z, z = o3 := ⟨_, rfl⟩
      show J Γ 5 (HS κ A s0) 0 0 101 [(0, .ref a0), (1, .int p1), (2, .int e53_2)] []
      refine j_blk (pc' := 102) (lv' := [(0, .ref a0), (1, .int p1), (2, .int e53_2)]) (st' := [.int e53_2]) E b_c11_played_101_1 rfl ?_
      refine j_if_eq (tgt := 107) E d_c11_played_102 (by decide) (fun h16 => ?_) (fun h16 => ?_)
      · replace hF := g_t hF h16
        refine j_blk (pc' := 110) (lv' := [(3, .int (Int32.ofInt 0)), (0, .ref a0), (1, .int p1), (2, .int e53_2)]) (st' := [.ref a0]) E b_c11_played_107_3 rfl ?_
        replace hF := ocl_at hF
        obtain ⟨hc, hF⟩ := hF
        replace hF := obd_at hF
        obtain ⟨s18, he17, hF⟩ := hF
        refine j_callv [] [] E w_RX11_177 (hroom 1 1 (by decide) (by decide)) hAA (c11_begins _ κ A _ _  he17) (fun _ h => h) (fun _ _ _ h _ _ => h) (fun _ h => j_recv E h hc rfl) rfl rfl (Nat.le_of_ble_eq_true rfl) d_c11_played_110 ⟨Nat.zero_le _, Nat.zero_le _⟩ ?_
        refine j_blk (pc' := 116) (lv' := [(4, .int (Int32.ofInt 0)), (3, .int (Int32.ofInt 0)), (0, .ref a0), (1, .int p1), (2, .int e53_2)]) (st' := []) E b_c11_played_113_2 rfl ?_
        refine j_lv [2, 3, 1, 0] rfl ?_
        replace hF := obd_at hF
        obtain ⟨o19, ho19, hF⟩ := hF
        have lpo19 : ∀ (fu : Nat) (w : Int32 × Int32 × HM) (o : Int32 × HM), iter (f11_played_L116 a0 p1) fu w = some o → (fun (o : Int32 × HM) => J Γ 5 (HS κ A o.2) 0 0 162 [(0, .ref a0), (3, .int o.1)] []) o → (fun (w : Int32 × Int32 × HM) => J Γ 5 (HS κ A w.2.2) 0 0 116 [(0, .ref a0), (1, .int p1), (3, .int w.1), (4, .int w.2.1)] []) w := by
          refine j_iter (P := fun (w : Int32 × Int32 × HM) => J Γ 5 (HS κ A w.2.2) 0 0 116 [(0, .ref a0), (1, .int p1), (3, .int w.1), (4, .int w.2.1)] []) (G := fun (o : Int32 × HM) => J Γ 5 (HS κ A o.2) 0 0 162 [(0, .ref a0), (3, .int o.1)] []) ?_
          rintro ⟨x116_3, x116_4, s116⟩ q hF hI hO
          show J Γ 5 (HS κ A s116) 0 0 116 [(0, .ref a0), (1, .int p1), (3, .int x116_3), (4, .int x116_4)] []
          unfold f11_played_L116 at hF
          refine j_blk (pc' := 120) (lv' := [(0, .ref a0), (1, .int p1), (3, .int x116_3), (4, .int x116_4)]) (st' := [.ref a0, .int (Int32.ofInt 1), .int x116_4]) E b_c11_played_116_3 rfl ?_
          replace hF := ocl_at hF
          obtain ⟨hc, hF⟩ := hF
          replace hF := obd_at hF
          obtain ⟨v21, he20, hF⟩ := hF
          refine j_callv [] [.int (Int32.ofInt 1), .int x116_4] E w_RX11_191 (hroom 0 1 (by decide) (by decide)) hAA (c11_matches _ κ A _ _  he20) (fun _ h => h) (fun _ _ _ h _ _ => h) (fun _ h => j_recv E h hc rfl) rfl rfl (Nat.le_of_ble_eq_true rfl) d_c11_played_120 ⟨Nat.zero_le _, Nat.zero_le _⟩ ?_
          refine j_blk (pc' := 124) (lv' := [(0, .ref a0), (1, .int p1), (3, .int x116_3), (4, .int x116_4)]) (st' := [.int ((Int32.ofInt 1) <<< (v21 &&& 31)), .int x116_4]) E b_c11_played_123_1 rfl ?_
          refine j_icmp_ge (tgt := 162) E d_c11_played_124 (by decide) (fun h22 => ?_) (fun h22 => ?_)
          · replace hF := g_t hF h22
            refine j_lv [0, 2] rfl ?_
            exact hO _ (g_inj hF)
          · replace hF := g_f hF h22
            refine j_blk (pc' := 130) (lv' := [(0, .ref a0), (1, .int p1), (3, .int x116_3), (4, .int x116_4)]) (st' := [.int x116_4, .ref a0]) E b_c11_played_127_2 rfl ?_
            replace hF := ocl_at hF
            obtain ⟨hc, hF⟩ := hF
            replace hF := obd_at hF
            obtain ⟨s24, he23, hF⟩ := hF
            refine j_callv [.int x116_4] [] E w_RX11_194 (hroom 2 5 (by decide) (by decide)) hAA (c11_plays _ κ A _ _ _  he23) (fun _ h => h) (fun _ _ _ h _ _ => h) (fun _ h => j_recv E h hc rfl) rfl rfl (Nat.le_of_ble_eq_true rfl) d_c11_played_130 ⟨Nat.zero_le _, Nat.zero_le _⟩ ?_
            refine j_blk (pc' := 136) (lv' := [(0, .ref a0), (1, .int p1), (3, .int x116_3), (4, .int x116_4)]) (st' := [.int p1, .ref a0, .int x116_3]) E b_c11_played_133_3 rfl ?_
            replace hF := ocl_at hF
            obtain ⟨hc, hF⟩ := hF
            replace hF := obd_at hF
            obtain ⟨v26, he25, hF⟩ := hF
            refine j_callv [.int p1] [.int x116_3] E w_RX11_223 (hroom 1 3 (by decide) (by decide)) hAA (c11_isAsPlayed _ κ A _ _ _  he25) (fun _ h => h) (fun _ _ _ h _ _ => h) (fun _ h => j_recv E h hc rfl) rfl rfl (Nat.le_of_ble_eq_true rfl) d_c11_played_136 ⟨Nat.zero_le _, Nat.zero_le _⟩ ?_
            refine j_if_eq (tgt := 153) E d_c11_played_139 (by decide) (fun h27 => ?_) (fun h27 => ?_)
            · replace hF := g_t hF h27
              refine j_blk (pc' := 159) (lv' := [(4, .int (x116_4 + Int32.ofInt 1)), (3, .int (x116_3 + (Int32.ofInt 0))), (0, .ref a0), (1, .int p1)]) (st' := []) E b_c11_played_153_4 rfl ?_
              refine j_goto (tgt := 116) E d_c11_played_159 (by decide) ?_
              refine j_lv [2, 3, 1, 0] rfl ?_
              exact hI _ (g_inj hF)
            · replace hF := g_f hF h27
              refine j_blk (pc' := 143) (lv' := [(0, .ref a0), (1, .int p1), (3, .int x116_3), (4, .int x116_4)]) (st' := [.ref a0, .int x116_3]) E b_c11_played_142_1 rfl ?_
              replace hF := ocl_at hF
              obtain ⟨hc, hF⟩ := hF
              replace hF := obd_at hF
              obtain ⟨v29, he28, hF⟩ := hF
              refine j_callv [] [.int x116_3] E w_RX11_153 (hroom 3 3 (by decide) (by decide)) hAA (c11_isLawful _ κ A _ _  he28) (fun _ h => h) (fun _ _ _ h _ _ => h) (fun _ h => j_recv E h hc rfl) rfl rfl (Nat.le_of_ble_eq_true rfl) d_c11_played_143 ⟨Nat.zero_le _, Nat.zero_le _⟩ ?_
              refine j_if_eq (tgt := 153) E d_c11_played_146 (by decide) (fun h30 => ?_) (fun h30 => ?_)
              · replace hF := g_t hF h30
                refine j_blk (pc' := 159) (lv' := [(4, .int (x116_4 + Int32.ofInt 1)), (3, .int (x116_3 + (Int32.ofInt 0))), (0, .ref a0), (1, .int p1)]) (st' := []) E b_c11_played_153_4 rfl ?_
                refine j_goto (tgt := 116) E d_c11_played_159 (by decide) ?_
                refine j_lv [2, 3, 1, 0] rfl ?_
                exact hI _ (g_inj hF)
              · replace hF := g_f hF h30
                refine j_blk (pc' := 150) (lv' := [(0, .ref a0), (1, .int p1), (3, .int x116_3), (4, .int x116_4)]) (st' := [.int (Int32.ofInt 1), .int x116_3]) E b_c11_played_149_1 rfl ?_
                refine j_goto (tgt := 154) E d_c11_played_150 (by decide) ?_
                refine j_blk (pc' := 159) (lv' := [(4, .int (x116_4 + Int32.ofInt 1)), (3, .int (x116_3 + (Int32.ofInt 1))), (0, .ref a0), (1, .int p1)]) (st' := []) E b_c11_played_154_3 rfl ?_
                refine j_goto (tgt := 116) E d_c11_played_159 (by decide) ?_
                refine j_lv [2, 3, 1, 0] rfl ?_
                exact hI _ (g_inj hF)
        refine lpo19 FU (Int32.ofInt 0, Int32.ofInt 0, s18) o19 ho19 ?_
        obtain ⟨e116_3, t116⟩ := o19
        show J Γ 5 (HS κ A t116) 0 0 162 [(0, .ref a0), (3, .int e116_3)] []
        refine j_blk (pc' := 163) (lv' := [(0, .ref a0), (3, .int e116_3)]) (st' := [.ref a0]) E b_c11_played_162_1 rfl ?_
        replace hF := ocl_at hF
        obtain ⟨hc, hF⟩ := hF
        replace hF := obd_at hF
        obtain ⟨s32, he31, hF⟩ := hF
        refine j_callv [] [] E w_RX11_180 (hroom 1 1 (by decide) (by decide)) hAA (c11_ends _ κ A _ _  he31) (fun _ h => h) (fun _ _ _ h _ _ => h) (fun _ h => j_recv E h hc rfl) rfl rfl (Nat.le_of_ble_eq_true rfl) d_c11_played_163 ⟨Nat.zero_le _, Nat.zero_le _⟩ ?_
        refine j_blk (pc' := 167) (lv' := [(0, .ref a0), (3, .int e116_3)]) (st' := [.int e116_3]) E b_c11_played_166_1 rfl ?_
        have e : res = (e116_3, s32) := g_inj hF
        subst e
        exact j_iret E hQ d_c11_played_167 (fun _ h => h)
      · replace hF := g_f hF h16
        refine j_blk (pc' := 106) (lv' := [(0, .ref a0), (1, .int p1), (2, .int e53_2)]) (st' := [.int e53_2]) E b_c11_played_105_1 rfl ?_
        have e : res = (e53_2, s0) := g_inj hF
        subst e
        exact j_iret E hQ d_c11_played_106 (fun _ h => h)
    refine j_if_ne (tgt := 51) E d_c11_played_34 (by decide) (fun h33 => ?_) (fun h33 => ?_)
    · replace hF := g_f hF h33
      refine j_lv [1, 2, 0] rfl ?_
      exact kp51 k32_t0 hF
    · replace hF := g_t hF h33
      refine j_blk (pc' := 38) (lv' := [(2, .int k32_t0), (0, .ref a0), (1, .int p1)]) (st' := [.ref a0]) E b_c11_played_37_1 rfl ?_
      replace hF := obd_at hF
      obtain ⟨v34, ev34, hF⟩ := hF
      refine j_getf E fg_RX11_28 d_c11_played_38 ev34 ?_
      refine j_blk (pc' := 42) (lv' := [(2, .int k32_t0), (0, .ref a0), (1, .int p1)]) (st' := [.int p1, v34]) E b_c11_played_41_1 rfl ?_
      replace hF := orf_at hF
      obtain ⟨b35, rfl, hF⟩ := hF
      replace hF := obd_at hF
      obtain ⟨v36, ev36, hF⟩ := hF
      refine j_iald E d_c11_played_42 ev36 ?_
      refine j_blk (pc' := 44) (lv' := [(2, .int k32_t0), (0, .ref a0), (1, .int p1)]) (st' := [.int (Int32.ofInt 2), .int v36]) E b_c11_played_43_1 rfl ?_
      replace hF := onz_at hF
      obtain ⟨h0, hF⟩ := hF
      refine j_irem E d_c11_played_44 h0 ?_
      refine j_if_eq (tgt := 51) E d_c11_played_45 (by decide) (fun h37 => ?_) (fun h37 => ?_)
      · replace hF := g_t hF h37
        refine j_lv [1, 2, 0] rfl ?_
        exact kp51 k32_t0 hF
      · replace hF := g_f hF h37
        refine j_blk (pc' := 51) (lv' := [(2, .int ((Int8.ofInt (-13)).toInt32)), (0, .ref a0), (1, .int p1)]) (st' := []) E b_c11_played_48_2 rfl ?_
        refine j_lv [1, 2, 0] rfl ?_
        exact kp51 ((Int8.ofInt (-13)).toInt32) hF
  refine j_if_ne (tgt := 11) E d_c11_played_4 (by decide) (fun h38 => ?_) (fun h38 => ?_)
  · replace hF := g_f hF h38
    refine j_blk (pc' := 12) (lv' := [(0, .ref a0), (1, .int p1)]) (st' := [.ref a0]) E b_c11_played_11_1 rfl ?_
    replace hF := obd_at hF
    obtain ⟨v39, ev39, hF⟩ := hF
    refine j_getf E fg_RX11_9 d_c11_played_12 ev39 ?_
    refine j_blk (pc' := 16) (lv' := [(0, .ref a0), (1, .int p1)]) (st' := [.int (Int32.ofInt 0), v39]) E b_c11_played_15_1 rfl ?_
    replace hF := orf_at hF
    obtain ⟨b40, rfl, hF⟩ := hF
    replace hF := obd_at hF
    obtain ⟨v41, ev41, hF⟩ := hF
    refine j_iald E d_c11_played_16 ev41 ?_
    refine j_blk (pc' := 18) (lv' := [(0, .ref a0), (1, .int p1)]) (st' := [.int (Int32.ofInt 5), .int v41]) E b_c11_played_17_1 rfl ?_
    refine j_icmp_le (tgt := 26) E d_c11_played_18 (by decide) (fun h42 => ?_) (fun h42 => ?_)
    · replace hF := g_t hF h42
      refine j_blk (pc' := 29) (lv' := [(0, .ref a0), (1, .int p1)]) (st' := [.int (Int32.ofInt 0), .int p1, .ref a0]) E b_c11_played_26_3 rfl ?_
      replace hF := ocl_at hF
      obtain ⟨hc, hF⟩ := hF
      replace hF := obd_at hF
      obtain ⟨v44, he43, hF⟩ := hF
      refine j_callv [.int p1, .int (Int32.ofInt 0)] [] E w_RX11_134 (hroom 2 3 (by decide) (by decide)) hAA (c11_wrongRow _ κ A _ _ _ _  he43) (fun _ h => h) (fun _ _ _ h _ _ => h) (fun _ h => j_recv E h hc rfl) rfl rfl (Nat.le_of_ble_eq_true rfl) d_c11_played_29 ⟨Nat.zero_le _, Nat.zero_le _⟩ ?_
      exact kp32 v44 hF
    · replace hF := g_f hF h42
      refine j_blk (pc' := 23) (lv' := [(0, .ref a0), (1, .int p1)]) (st' := [.int ((Int8.ofInt (-3)).toInt32)]) E b_c11_played_21_1 rfl ?_
      refine j_goto (tgt := 32) E d_c11_played_23 (by decide) ?_
      exact kp32 ((Int8.ofInt (-3)).toInt32) hF
  · replace hF := g_t hF h38
    refine j_blk (pc' := 8) (lv' := [(0, .ref a0), (1, .int p1)]) (st' := [.int (Int32.ofInt (-1))]) E b_c11_played_7_1 rfl ?_
    refine j_goto (tgt := 32) E d_c11_played_8 (by decide) ?_
    exact kp32 (Int32.ofInt (-1)) hF
theorem b_c11_seeded_0_3 : bdec cX11_seeded 0 [.iload_n 1, .i2l, .lconst 1] = true := by decide +kernel
theorem d_c11_seeded_3 : decode cX11_seeded 3 = .ok (.ldc2_w 232, 3) := by decide +kernel
theorem d_c11_seeded_6 : decode cX11_seeded 6 = .ok (.invokestatic 49, 3) := by decide +kernel
theorem d_c11_seeded_9 : decode cX11_seeded 9 = .ok (.ifCond .ne 5, 3) := by decide +kernel
theorem b_c11_seeded_14_1 : bdec cX11_seeded 14 [.aload_n 0] = true := by decide +kernel
theorem d_c11_seeded_15 : decode cX11_seeded 15 = .ok (.invokevirtual 177, 3) := by decide +kernel
theorem b_c11_seeded_18_2 : bdec cX11_seeded 18 [.aload_n 0, .iload_n 2] = true := by decide +kernel
theorem d_c11_seeded_20 : decode cX11_seeded 20 = .ok (.putfield 226, 3) := by decide +kernel
theorem b_c11_seeded_23_4 : bdec cX11_seeded 23 [.iconst 0, .istore_n 3, .iconst 0, .istore 4] = true := by decide +kernel
theorem b_c11_seeded_28_2 : bdec cX11_seeded 28 [.iload 4, .iload_n 1] = true := by decide +kernel
theorem d_c11_seeded_31 : decode cX11_seeded 31 = .ok (.if_icmp .ge 112, 3) := by decide +kernel
theorem b_c11_seeded_34_2 : bdec cX11_seeded 34 [.iconst 0, .istore 5] = true := by decide +kernel
theorem b_c11_seeded_37_2 : bdec cX11_seeded 37 [.iload 5, .aload_n 0] = true := by decide +kernel
theorem d_c11_seeded_40 : decode cX11_seeded 40 = .ok (.getfield 9, 3) := by decide +kernel
theorem b_c11_seeded_43_1 : bdec cX11_seeded 43 [.iconst 0] = true := by decide +kernel
theorem d_c11_seeded_44 : decode cX11_seeded 44 = .ok (.iaload, 1) := by decide +kernel
theorem d_c11_seeded_45 : decode cX11_seeded 45 = .ok (.if_icmp .ge 77, 3) := by decide +kernel
theorem b_c11_seeded_48_4 : bdec cX11_seeded 48 [.iload 5, .iconst 1, .iadd, .istore 6] = true := by decide +kernel
theorem b_c11_seeded_54_2 : bdec cX11_seeded 54 [.iload 6, .aload_n 0] = true := by decide +kernel
theorem d_c11_seeded_57 : decode cX11_seeded 57 = .ok (.getfield 9, 3) := by decide +kernel
theorem b_c11_seeded_60_1 : bdec cX11_seeded 60 [.iconst 0] = true := by decide +kernel
theorem d_c11_seeded_61 : decode cX11_seeded 61 = .ok (.iaload, 1) := by decide +kernel
theorem d_c11_seeded_62 : decode cX11_seeded 62 = .ok (.if_icmp .ge 54, 3) := by decide +kernel
theorem b_c11_seeded_65_3 : bdec cX11_seeded 65 [.aload_n 0, .aload_n 0, .iload 5] = true := by decide +kernel
theorem d_c11_seeded_69 : decode cX11_seeded 69 = .ok (.invokevirtual 144, 3) := by decide +kernel
theorem b_c11_seeded_72_2 : bdec cX11_seeded 72 [.aload_n 0, .iload 6] = true := by decide +kernel
theorem d_c11_seeded_75 : decode cX11_seeded 75 = .ok (.invokevirtual 144, 3) := by decide +kernel
theorem b_c11_seeded_78_1 : bdec cX11_seeded 78 [.iadd] = true := by decide +kernel
theorem d_c11_seeded_79 : decode cX11_seeded 79 = .ok (.invokevirtual 234, 3) := by decide +kernel
theorem b_c11_seeded_82_2 : bdec cX11_seeded 82 [.aload_n 0, .iload 5] = true := by decide +kernel
theorem d_c11_seeded_85 : decode cX11_seeded 85 = .ok (.invokevirtual 144, 3) := by decide +kernel
theorem d_c11_seeded_88 : decode cX11_seeded 88 = .ok (.if_icmp .ge 14, 3) := by decide +kernel
theorem b_c11_seeded_102_3 : bdec cX11_seeded 102 [.aload_n 0, .iload 6, .iload 5] = true := by decide +kernel
theorem d_c11_seeded_107 : decode cX11_seeded 107 = .ok (.invokevirtual 84, 3) := by decide +kernel
theorem b_c11_seeded_110_1 : bdec cX11_seeded 110 [.iinc 6 1] = true := by decide +kernel
theorem d_c11_seeded_113 : decode cX11_seeded 113 = .ok (.goto (-59), 3) := by decide +kernel
theorem b_c11_seeded_91_3 : bdec cX11_seeded 91 [.aload_n 0, .iload 5, .iload 6] = true := by decide +kernel
theorem d_c11_seeded_96 : decode cX11_seeded 96 = .ok (.invokevirtual 84, 3) := by decide +kernel
theorem d_c11_seeded_99 : decode cX11_seeded 99 = .ok (.goto 11, 3) := by decide +kernel
theorem b_c11_seeded_116_1 : bdec cX11_seeded 116 [.iinc 5 1] = true := by decide +kernel
theorem d_c11_seeded_119 : decode cX11_seeded 119 = .ok (.goto (-82), 3) := by decide +kernel
theorem b_c11_seeded_122_2 : bdec cX11_seeded 122 [.iload_n 3, .aload_n 0] = true := by decide +kernel
theorem d_c11_seeded_124 : decode cX11_seeded 124 = .ok (.invokevirtual 153, 3) := by decide +kernel
theorem d_c11_seeded_127 : decode cX11_seeded 127 = .ok (.ifCond .eq 7, 3) := by decide +kernel
theorem b_c11_seeded_134_4 : bdec cX11_seeded 134 [.iconst 0, .iadd, .istore_n 3, .iinc 4 1] = true := by decide +kernel
theorem d_c11_seeded_140 : decode cX11_seeded 140 = .ok (.goto (-112), 3) := by decide +kernel
theorem b_c11_seeded_130_1 : bdec cX11_seeded 130 [.iconst 1] = true := by decide +kernel
theorem d_c11_seeded_131 : decode cX11_seeded 131 = .ok (.goto 4, 3) := by decide +kernel
theorem b_c11_seeded_135_3 : bdec cX11_seeded 135 [.iadd, .istore_n 3, .iinc 4 1] = true := by decide +kernel
theorem b_c11_seeded_143_1 : bdec cX11_seeded 143 [.aload_n 0] = true := by decide +kernel
theorem d_c11_seeded_144 : decode cX11_seeded 144 = .ok (.invokevirtual 180, 3) := by decide +kernel
theorem b_c11_seeded_147_1 : bdec cX11_seeded 147 [.iload_n 3] = true := by decide +kernel
theorem d_c11_seeded_148 : decode cX11_seeded 148 = .ok (.ireturn, 1) := by decide +kernel
theorem b_c11_seeded_12_1 : bdec cX11_seeded 12 [.iconst (-1)] = true := by decide +kernel
theorem d_c11_seeded_13 : decode cX11_seeded 13 = .ok (.ireturn, 1) := by decide +kernel
def f11_seeded_L54 (a0 : Nat) (p1 : Int32) (x28_3 : Int32) (x28_4 : Int32) (x37_5 : Int32) (w : Int32 × HM) : Option ((Int32 × HM) ⊕ (HM)) := match w with
  | (x54_6, s54) => obd (hfld s54 [11] 0 a0) (fun v15 => orf v15 (fun b16 => obd (hald s54 b16 (Int32.ofInt 0)) (fun v17 => if v17 ≤ x54_6 then (some (.inr s54)) else (ocl s54 a0 11 (obd (f11_skill s54 a0 x37_5) (fun v20 => ocl s54 a0 11 (obd (f11_skill s54 a0 x54_6) (fun v22 => ocl s54 a0 11 (obd (f11_drawn s54 a0 (v20 + v22)) (fun e23 => match e23 with | (v25, s24) => ocl s24 a0 11 (obd (f11_skill s24 a0 x37_5) (fun v27 => if v27 ≤ v25 then (ocl s24 a0 11 (obd (f11_beats s24 a0 x54_6 x37_5) (fun s30 => some (.inl (x54_6 + Int32.ofInt 1, s30))))) else (ocl s24 a0 11 (obd (f11_beats s24 a0 x37_5 x54_6) (fun s32 => some (.inl (x54_6 + Int32.ofInt 1, s32)))))))))))))))))
def f11_seeded_L37 (a0 : Nat) (p1 : Int32) (x28_3 : Int32) (x28_4 : Int32) (w : Int32 × HM) : Option ((Int32 × HM) ⊕ (HM)) := match w with
  | (x37_5, s37) => obd (hfld s37 [11] 0 a0) (fun v10 => orf v10 (fun b11 => obd (hald s37 b11 (Int32.ofInt 0)) (fun v12 => if v12 ≤ x37_5 then (some (.inr s37)) else (obd (iter (f11_seeded_L54 a0 p1 x28_3 x28_4 x37_5) FU (x37_5 + (Int32.ofInt 1), s37)) (fun o14 => match o14 with | t54 => some (.inl (x37_5 + Int32.ofInt 1, t54)))))))
def f11_seeded_L28 (a0 : Nat) (p1 : Int32) (w : Int32 × Int32 × HM) : Option ((Int32 × Int32 × HM) ⊕ (Int32 × HM)) := match w with
  | (x28_3, x28_4, s28) => if p1 ≤ x28_4 then (some (.inr (x28_3, s28))) else (obd (iter (f11_seeded_L37 a0 p1 x28_3 x28_4) FU (Int32.ofInt 0, s28)) (fun o9 => match o9 with | t37 => ocl t37 a0 11 (obd (f11_isLawful t37 a0) (fun v34 => if v34 = 0 then (some (.inl (x28_3 + (Int32.ofInt 0), x28_4 + Int32.ofInt 1, t37))) else (some (.inl (x28_3 + (Int32.ofInt 1), x28_4 + Int32.ofInt 1, t37)))))))
def f11_seeded (s0 : HM) (a0 : Nat) (p1 : Int32) (p2 : Int32) : Option (Int32 × HM) := obd (f11_isIn p1.toInt64 (Int64.ofNat 1) 30) (fun v2 => if v2 = 0 then (some (Int32.ofInt (-1), s0)) else (ocl s0 a0 11 (obd (f11_begins s0 a0) (fun s5 => obd (hput s5 [11] 18 a0 (.int p2)) (fun s6 => obd (iter (f11_seeded_L28 a0 p1) FU (Int32.ofInt 0, Int32.ofInt 0, s6)) (fun o7 => match o7 with | (e28_3, t28) => ocl t28 a0 11 (obd (f11_ends t28 a0) (fun s37 => some (e28_3, s37)))))))))
set_option maxRecDepth 100000 in
set_option maxHeartbeats 4000000 in
theorem c11_seeded (l : Launch) (κ : KP) (A : Nat → Prop) (s0 : HM) (a0 : Nat) (p1 : Int32) (p2 : Int32) {res : Int32 × HM} (hF : f11_seeded s0 a0 p1 p2 = some res) : Met l yX11_seeded (Cond.code yX11_seeded cX11_seeded 7 (some .int) :: WT) (rmL 4 0 0) (PP κ A [.ref a0, .int p1, .int p2] (HS κ A s0)) (QQ (some (.int res.1)) (HS κ A res.2) A) 0 0 A := by
  refine met_of (own := RX11) (by decide) rfl (Nat.le_of_ble_eq_true rfl) ?_
  intro Γ E hQ hL hR hA hent hini
  have hAA : ∀ q, A q → jA Γ q := fun q h => by rw [hA]; exact h
  have hroom : ∀ (d mL : Nat) {mc ms : Nat}, d < 4 → mL ≤ 21 → (rmL d mc ms).frames + 1 ≤ (jR Γ).frames ∧ 8 + (mL + 11) + (rmL d mc ms).locals ≤ (jR Γ).locals := fun d mL mc ms h1 h2 => by rw [hR]; exact rmL_le h1 h2
  show J Γ 7 (HS κ A s0) 0 0 0 [(0, .ref a0), (1, .int p1), (2, .int p2)] []
  unfold f11_seeded at hF
  refine j_blk (pc' := 3) (lv' := [(0, .ref a0), (1, .int p1), (2, .int p2)]) (st' := [.long (Int64.ofNat 1), .long p1.toInt64]) E b_c11_seeded_0_3 rfl ?_
  refine j_ldc2 (u := 30) E d_c11_seeded_3 m_1123 ?_
  replace hF := obd_at hF
  obtain ⟨v2, he1, hF⟩ := hF
  refine j_calls [.long p1.toInt64, .long (Int64.ofNat 1), .long 30] [] E w_RX11_49 (hroom 0 6 (by decide) (by decide)) hAA (c11_isIn _ κ A (HS κ A s0) _ _ _  he1) (fun _ h => h) (fun _ _ _ h _ _ => h) rfl rfl (Nat.le_of_ble_eq_true rfl) d_c11_seeded_6 ⟨Nat.zero_le _, Nat.zero_le _⟩ ?_
  refine j_if_ne (tgt := 14) E d_c11_seeded_9 (by decide) (fun h3 => ?_) (fun h3 => ?_)
  · replace hF := g_f hF h3
    refine j_blk (pc' := 15) (lv' := [(0, .ref a0), (1, .int p1), (2, .int p2)]) (st' := [.ref a0]) E b_c11_seeded_14_1 rfl ?_
    replace hF := ocl_at hF
    obtain ⟨hc, hF⟩ := hF
    replace hF := obd_at hF
    obtain ⟨s5, he4, hF⟩ := hF
    refine j_callv [] [] E w_RX11_177 (hroom 1 1 (by decide) (by decide)) hAA (c11_begins _ κ A _ _  he4) (fun _ h => h) (fun _ _ _ h _ _ => h) (fun _ h => j_recv E h hc rfl) rfl rfl (Nat.le_of_ble_eq_true rfl) d_c11_seeded_15 ⟨Nat.zero_le _, Nat.zero_le _⟩ ?_
    refine j_blk (pc' := 20) (lv' := [(0, .ref a0), (1, .int p1), (2, .int p2)]) (st' := [.int p2, .ref a0]) E b_c11_seeded_18_2 rfl ?_
    replace hF := obd_at hF
    obtain ⟨s6, es6, hF⟩ := hF
    refine j_put E fp_RX11_226 d_c11_seeded_20 rfl rfl es6 hAA ?_
    refine j_blk (pc' := 28) (lv' := [(4, .int (Int32.ofInt 0)), (3, .int (Int32.ofInt 0)), (0, .ref a0), (1, .int p1), (2, .int p2)]) (st' := []) E b_c11_seeded_23_4 rfl ?_
    refine j_lv [2, 3, 1, 0] rfl ?_
    replace hF := obd_at hF
    obtain ⟨o7, ho7, hF⟩ := hF
    have lpo7 : ∀ (fu : Nat) (w : Int32 × Int32 × HM) (o : Int32 × HM), iter (f11_seeded_L28 a0 p1) fu w = some o → (fun (o : Int32 × HM) => J Γ 7 (HS κ A o.2) 0 0 143 [(0, .ref a0), (3, .int o.1)] []) o → (fun (w : Int32 × Int32 × HM) => J Γ 7 (HS κ A w.2.2) 0 0 28 [(0, .ref a0), (1, .int p1), (3, .int w.1), (4, .int w.2.1)] []) w := by
      refine j_iter (P := fun (w : Int32 × Int32 × HM) => J Γ 7 (HS κ A w.2.2) 0 0 28 [(0, .ref a0), (1, .int p1), (3, .int w.1), (4, .int w.2.1)] []) (G := fun (o : Int32 × HM) => J Γ 7 (HS κ A o.2) 0 0 143 [(0, .ref a0), (3, .int o.1)] []) ?_
      rintro ⟨x28_3, x28_4, s28⟩ q hF hI hO
      show J Γ 7 (HS κ A s28) 0 0 28 [(0, .ref a0), (1, .int p1), (3, .int x28_3), (4, .int x28_4)] []
      unfold f11_seeded_L28 at hF
      refine j_blk (pc' := 31) (lv' := [(0, .ref a0), (1, .int p1), (3, .int x28_3), (4, .int x28_4)]) (st' := [.int p1, .int x28_4]) E b_c11_seeded_28_2 rfl ?_
      refine j_icmp_ge (tgt := 143) E d_c11_seeded_31 (by decide) (fun h8 => ?_) (fun h8 => ?_)
      · replace hF := g_t hF h8
        refine j_lv [0, 2] rfl ?_
        exact hO _ (g_inj hF)
      · replace hF := g_f hF h8
        refine j_blk (pc' := 37) (lv' := [(5, .int (Int32.ofInt 0)), (0, .ref a0), (1, .int p1), (3, .int x28_3), (4, .int x28_4)]) (st' := []) E b_c11_seeded_34_2 rfl ?_
        refine j_lv [1, 2, 3, 4, 0] rfl ?_
        replace hF := obd_at hF
        obtain ⟨o9, ho9, hF⟩ := hF
        have lpo9 : ∀ (fu : Nat) (w : Int32 × HM) (o : HM), iter (f11_seeded_L37 a0 p1 x28_3 x28_4) fu w = some o → (fun (o : HM) => J Γ 7 (HS κ A o) 0 0 122 [(0, .ref a0), (1, .int p1), (3, .int x28_3), (4, .int x28_4)] []) o → (fun (w : Int32 × HM) => J Γ 7 (HS κ A w.2) 0 0 37 [(0, .ref a0), (1, .int p1), (3, .int x28_3), (4, .int x28_4), (5, .int w.1)] []) w := by
          refine j_iter (P := fun (w : Int32 × HM) => J Γ 7 (HS κ A w.2) 0 0 37 [(0, .ref a0), (1, .int p1), (3, .int x28_3), (4, .int x28_4), (5, .int w.1)] []) (G := fun (o : HM) => J Γ 7 (HS κ A o) 0 0 122 [(0, .ref a0), (1, .int p1), (3, .int x28_3), (4, .int x28_4)] []) ?_
          rintro ⟨x37_5, s37⟩ q hF hI hO
          show J Γ 7 (HS κ A s37) 0 0 37 [(0, .ref a0), (1, .int p1), (3, .int x28_3), (4, .int x28_4), (5, .int x37_5)] []
          unfold f11_seeded_L37 at hF
          refine j_blk (pc' := 40) (lv' := [(0, .ref a0), (1, .int p1), (3, .int x28_3), (4, .int x28_4), (5, .int x37_5)]) (st' := [.ref a0, .int x37_5]) E b_c11_seeded_37_2 rfl ?_
          replace hF := obd_at hF
          obtain ⟨v10, ev10, hF⟩ := hF
          refine j_getf E fg_RX11_9 d_c11_seeded_40 ev10 ?_
          refine j_blk (pc' := 44) (lv' := [(0, .ref a0), (1, .int p1), (3, .int x28_3), (4, .int x28_4), (5, .int x37_5)]) (st' := [.int (Int32.ofInt 0), v10, .int x37_5]) E b_c11_seeded_43_1 rfl ?_
          replace hF := orf_at hF
          obtain ⟨b11, rfl, hF⟩ := hF
          replace hF := obd_at hF
          obtain ⟨v12, ev12, hF⟩ := hF
          refine j_iald E d_c11_seeded_44 ev12 ?_
          refine j_icmp_ge (tgt := 122) E d_c11_seeded_45 (by decide) (fun h13 => ?_) (fun h13 => ?_)
          · replace hF := g_t hF h13
            refine j_lv [0, 1, 2, 3] rfl ?_
            exact hO _ (g_inj hF)
          · replace hF := g_f hF h13
            refine j_blk (pc' := 54) (lv' := [(6, .int (x37_5 + (Int32.ofInt 1))), (0, .ref a0), (1, .int p1), (3, .int x28_3), (4, .int x28_4), (5, .int x37_5)]) (st' := []) E b_c11_seeded_48_4 rfl ?_
            refine j_lv [1, 2, 3, 4, 5, 0] rfl ?_
            replace hF := obd_at hF
            obtain ⟨o14, ho14, hF⟩ := hF
            have lpo14 : ∀ (fu : Nat) (w : Int32 × HM) (o : HM), iter (f11_seeded_L54 a0 p1 x28_3 x28_4 x37_5) fu w = some o → (fun (o : HM) => J Γ 7 (HS κ A o) 0 0 116 [(0, .ref a0), (1, .int p1), (3, .int x28_3), (4, .int x28_4), (5, .int x37_5)] []) o → (fun (w : Int32 × HM) => J Γ 7 (HS κ A w.2) 0 0 54 [(0, .ref a0), (1, .int p1), (3, .int x28_3), (4, .int x28_4), (5, .int x37_5), (6, .int w.1)] []) w := by
              refine j_iter (P := fun (w : Int32 × HM) => J Γ 7 (HS κ A w.2) 0 0 54 [(0, .ref a0), (1, .int p1), (3, .int x28_3), (4, .int x28_4), (5, .int x37_5), (6, .int w.1)] []) (G := fun (o : HM) => J Γ 7 (HS κ A o) 0 0 116 [(0, .ref a0), (1, .int p1), (3, .int x28_3), (4, .int x28_4), (5, .int x37_5)] []) ?_
              rintro ⟨x54_6, s54⟩ q hF hI hO
              show J Γ 7 (HS κ A s54) 0 0 54 [(0, .ref a0), (1, .int p1), (3, .int x28_3), (4, .int x28_4), (5, .int x37_5), (6, .int x54_6)] []
              unfold f11_seeded_L54 at hF
              refine j_blk (pc' := 57) (lv' := [(0, .ref a0), (1, .int p1), (3, .int x28_3), (4, .int x28_4), (5, .int x37_5), (6, .int x54_6)]) (st' := [.ref a0, .int x54_6]) E b_c11_seeded_54_2 rfl ?_
              replace hF := obd_at hF
              obtain ⟨v15, ev15, hF⟩ := hF
              refine j_getf E fg_RX11_9 d_c11_seeded_57 ev15 ?_
              refine j_blk (pc' := 61) (lv' := [(0, .ref a0), (1, .int p1), (3, .int x28_3), (4, .int x28_4), (5, .int x37_5), (6, .int x54_6)]) (st' := [.int (Int32.ofInt 0), v15, .int x54_6]) E b_c11_seeded_60_1 rfl ?_
              replace hF := orf_at hF
              obtain ⟨b16, rfl, hF⟩ := hF
              replace hF := obd_at hF
              obtain ⟨v17, ev17, hF⟩ := hF
              refine j_iald E d_c11_seeded_61 ev17 ?_
              refine j_icmp_ge (tgt := 116) E d_c11_seeded_62 (by decide) (fun h18 => ?_) (fun h18 => ?_)
              · replace hF := g_t hF h18
                refine j_lv [0, 1, 2, 3, 4] rfl ?_
                exact hO _ (g_inj hF)
              · replace hF := g_f hF h18
                refine j_blk (pc' := 69) (lv' := [(0, .ref a0), (1, .int p1), (3, .int x28_3), (4, .int x28_4), (5, .int x37_5), (6, .int x54_6)]) (st' := [.int x37_5, .ref a0, .ref a0]) E b_c11_seeded_65_3 rfl ?_
                replace hF := ocl_at hF
                obtain ⟨hc, hF⟩ := hF
                replace hF := obd_at hF
                obtain ⟨v20, he19, hF⟩ := hF
                refine j_callv [.int x37_5] [.ref a0] E w_RX11_144 (hroom 1 2 (by decide) (by decide)) hAA (c11_skill _ κ A _ _ _  he19) (fun _ h => h) (fun _ _ _ h _ _ => h) (fun _ h => j_recv E h hc rfl) rfl rfl (Nat.le_of_ble_eq_true rfl) d_c11_seeded_69 ⟨Nat.zero_le _, Nat.zero_le _⟩ ?_
                refine j_blk (pc' := 75) (lv' := [(0, .ref a0), (1, .int p1), (3, .int x28_3), (4, .int x28_4), (5, .int x37_5), (6, .int x54_6)]) (st' := [.int x54_6, .ref a0, .int v20, .ref a0]) E b_c11_seeded_72_2 rfl ?_
                replace hF := ocl_at hF
                obtain ⟨hc, hF⟩ := hF
                replace hF := obd_at hF
                obtain ⟨v22, he21, hF⟩ := hF
                refine j_callv [.int x54_6] [.int v20, .ref a0] E w_RX11_144 (hroom 1 2 (by decide) (by decide)) hAA (c11_skill _ κ A _ _ _  he21) (fun _ h => h) (fun _ _ _ h _ _ => h) (fun _ h => j_recv E h hc rfl) rfl rfl (Nat.le_of_ble_eq_true rfl) d_c11_seeded_75 ⟨Nat.zero_le _, Nat.zero_le _⟩ ?_
                refine j_blk (pc' := 79) (lv' := [(0, .ref a0), (1, .int p1), (3, .int x28_3), (4, .int x28_4), (5, .int x37_5), (6, .int x54_6)]) (st' := [.int (v20 + v22), .ref a0]) E b_c11_seeded_78_1 rfl ?_
                replace hF := ocl_at hF
                obtain ⟨hc, hF⟩ := hF
                replace hF := obd_at hF
                obtain ⟨⟨v25, s24⟩, he23, hF⟩ := hF
                refine j_callv [.int (v20 + v22)] [] E w_RX11_234 (hroom 0 2 (by decide) (by decide)) hAA (c11_drawn _ κ A _ _ _  he23) (fun _ h => h) (fun _ _ _ h _ _ => h) (fun _ h => j_recv E h hc rfl) rfl rfl (Nat.le_of_ble_eq_true rfl) d_c11_seeded_79 ⟨Nat.zero_le _, Nat.zero_le _⟩ ?_
                refine j_blk (pc' := 85) (lv' := [(0, .ref a0), (1, .int p1), (3, .int x28_3), (4, .int x28_4), (5, .int x37_5), (6, .int x54_6)]) (st' := [.int x37_5, .ref a0, .int v25]) E b_c11_seeded_82_2 rfl ?_
                replace hF := ocl_at hF
                obtain ⟨hc, hF⟩ := hF
                replace hF := obd_at hF
                obtain ⟨v27, he26, hF⟩ := hF
                refine j_callv [.int x37_5] [.int v25] E w_RX11_144 (hroom 1 2 (by decide) (by decide)) hAA (c11_skill _ κ A _ _ _  he26) (fun _ h => h) (fun _ _ _ h _ _ => h) (fun _ h => j_recv E h hc rfl) rfl rfl (Nat.le_of_ble_eq_true rfl) d_c11_seeded_85 ⟨Nat.zero_le _, Nat.zero_le _⟩ ?_
                refine j_icmp_ge (tgt := 102) E d_c11_seeded_88 (by decide) (fun h28 => ?_) (fun h28 => ?_)
                · replace hF := g_t hF h28
                  refine j_blk (pc' := 107) (lv' := [(0, .ref a0), (1, .int p1), (3, .int x28_3), (4, .int x28_4), (5, .int x37_5), (6, .int x54_6)]) (st' := [.int x37_5, .int x54_6, .ref a0]) E b_c11_seeded_102_3 rfl ?_
                  replace hF := ocl_at hF
                  obtain ⟨hc, hF⟩ := hF
                  replace hF := obd_at hF
                  obtain ⟨s30, he29, hF⟩ := hF
                  refine j_callv [.int x54_6, .int x37_5] [] E w_RX11_84 (hroom 1 3 (by decide) (by decide)) hAA (c11_beats _ κ A _ _ _ _  he29) (fun _ h => h) (fun _ _ _ h _ _ => h) (fun _ h => j_recv E h hc rfl) rfl rfl (Nat.le_of_ble_eq_true rfl) d_c11_seeded_107 ⟨Nat.zero_le _, Nat.zero_le _⟩ ?_
                  refine j_blk (pc' := 113) (lv' := [(6, .int (x54_6 + Int32.ofInt 1)), (0, .ref a0), (1, .int p1), (3, .int x28_3), (4, .int x28_4), (5, .int x37_5)]) (st' := []) E b_c11_seeded_110_1 rfl ?_
                  refine j_goto (tgt := 54) E d_c11_seeded_113 (by decide) ?_
                  refine j_lv [1, 2, 3, 4, 5, 0] rfl ?_
                  exact hI _ (g_inj hF)
                · replace hF := g_f hF h28
                  refine j_blk (pc' := 96) (lv' := [(0, .ref a0), (1, .int p1), (3, .int x28_3), (4, .int x28_4), (5, .int x37_5), (6, .int x54_6)]) (st' := [.int x54_6, .int x37_5, .ref a0]) E b_c11_seeded_91_3 rfl ?_
                  replace hF := ocl_at hF
                  obtain ⟨hc, hF⟩ := hF
                  replace hF := obd_at hF
                  obtain ⟨s32, he31, hF⟩ := hF
                  refine j_callv [.int x37_5, .int x54_6] [] E w_RX11_84 (hroom 1 3 (by decide) (by decide)) hAA (c11_beats _ κ A _ _ _ _  he31) (fun _ h => h) (fun _ _ _ h _ _ => h) (fun _ h => j_recv E h hc rfl) rfl rfl (Nat.le_of_ble_eq_true rfl) d_c11_seeded_96 ⟨Nat.zero_le _, Nat.zero_le _⟩ ?_
                  refine j_goto (tgt := 110) E d_c11_seeded_99 (by decide) ?_
                  refine j_blk (pc' := 113) (lv' := [(6, .int (x54_6 + Int32.ofInt 1)), (0, .ref a0), (1, .int p1), (3, .int x28_3), (4, .int x28_4), (5, .int x37_5)]) (st' := []) E b_c11_seeded_110_1 rfl ?_
                  refine j_goto (tgt := 54) E d_c11_seeded_113 (by decide) ?_
                  refine j_lv [1, 2, 3, 4, 5, 0] rfl ?_
                  exact hI _ (g_inj hF)
            refine lpo14 FU (x37_5 + (Int32.ofInt 1), s37) o14 ho14 ?_
            obtain ⟨t54, rfl⟩ : ∃ z, z = o14 := ⟨_, rfl⟩
            show J Γ 7 (HS κ A t54) 0 0 116 [(0, .ref a0), (1, .int p1), (3, .int x28_3), (4, .int x28_4), (5, .int x37_5)] []
            refine j_blk (pc' := 119) (lv' := [(5, .int (x37_5 + Int32.ofInt 1)), (0, .ref a0), (1, .int p1), (3, .int x28_3), (4, .int x28_4)]) (st' := []) E b_c11_seeded_116_1 rfl ?_
            refine j_goto (tgt := 37) E d_c11_seeded_119 (by decide) ?_
            refine j_lv [1, 2, 3, 4, 0] rfl ?_
            exact hI _ (g_inj hF)
        refine lpo9 FU (Int32.ofInt 0, s28) o9 ho9 ?_
        obtain ⟨t37, rfl⟩ : ∃ z, z = o9 := ⟨_, rfl⟩
        show J Γ 7 (HS κ A t37) 0 0 122 [(0, .ref a0), (1, .int p1), (3, .int x28_3), (4, .int x28_4)] []
        refine j_blk (pc' := 124) (lv' := [(0, .ref a0), (1, .int p1), (3, .int x28_3), (4, .int x28_4)]) (st' := [.ref a0, .int x28_3]) E b_c11_seeded_122_2 rfl ?_
        replace hF := ocl_at hF
        obtain ⟨hc, hF⟩ := hF
        replace hF := obd_at hF
        obtain ⟨v34, he33, hF⟩ := hF
        refine j_callv [] [.int x28_3] E w_RX11_153 (hroom 3 3 (by decide) (by decide)) hAA (c11_isLawful _ κ A _ _  he33) (fun _ h => h) (fun _ _ _ h _ _ => h) (fun _ h => j_recv E h hc rfl) rfl rfl (Nat.le_of_ble_eq_true rfl) d_c11_seeded_124 ⟨Nat.zero_le _, Nat.zero_le _⟩ ?_
        refine j_if_eq (tgt := 134) E d_c11_seeded_127 (by decide) (fun h35 => ?_) (fun h35 => ?_)
        · replace hF := g_t hF h35
          refine j_blk (pc' := 140) (lv' := [(4, .int (x28_4 + Int32.ofInt 1)), (3, .int (x28_3 + (Int32.ofInt 0))), (0, .ref a0), (1, .int p1)]) (st' := []) E b_c11_seeded_134_4 rfl ?_
          refine j_goto (tgt := 28) E d_c11_seeded_140 (by decide) ?_
          refine j_lv [2, 3, 1, 0] rfl ?_
          exact hI _ (g_inj hF)
        · replace hF := g_f hF h35
          refine j_blk (pc' := 131) (lv' := [(0, .ref a0), (1, .int p1), (3, .int x28_3), (4, .int x28_4)]) (st' := [.int (Int32.ofInt 1), .int x28_3]) E b_c11_seeded_130_1 rfl ?_
          refine j_goto (tgt := 135) E d_c11_seeded_131 (by decide) ?_
          refine j_blk (pc' := 140) (lv' := [(4, .int (x28_4 + Int32.ofInt 1)), (3, .int (x28_3 + (Int32.ofInt 1))), (0, .ref a0), (1, .int p1)]) (st' := []) E b_c11_seeded_135_3 rfl ?_
          refine j_goto (tgt := 28) E d_c11_seeded_140 (by decide) ?_
          refine j_lv [2, 3, 1, 0] rfl ?_
          exact hI _ (g_inj hF)
    refine lpo7 FU (Int32.ofInt 0, Int32.ofInt 0, s6) o7 ho7 ?_
    obtain ⟨e28_3, t28⟩ := o7
    show J Γ 7 (HS κ A t28) 0 0 143 [(0, .ref a0), (3, .int e28_3)] []
    refine j_blk (pc' := 144) (lv' := [(0, .ref a0), (3, .int e28_3)]) (st' := [.ref a0]) E b_c11_seeded_143_1 rfl ?_
    replace hF := ocl_at hF
    obtain ⟨hc, hF⟩ := hF
    replace hF := obd_at hF
    obtain ⟨s37, he36, hF⟩ := hF
    refine j_callv [] [] E w_RX11_180 (hroom 1 1 (by decide) (by decide)) hAA (c11_ends _ κ A _ _  he36) (fun _ h => h) (fun _ _ _ h _ _ => h) (fun _ h => j_recv E h hc rfl) rfl rfl (Nat.le_of_ble_eq_true rfl) d_c11_seeded_144 ⟨Nat.zero_le _, Nat.zero_le _⟩ ?_
    refine j_blk (pc' := 148) (lv' := [(0, .ref a0), (3, .int e28_3)]) (st' := [.int e28_3]) E b_c11_seeded_147_1 rfl ?_
    have e : res = (e28_3, s37) := g_inj hF
    subst e
    exact j_iret E hQ d_c11_seeded_148 (fun _ h => h)
  · replace hF := g_t hF h3
    refine j_blk (pc' := 13) (lv' := [(0, .ref a0), (1, .int p1), (2, .int p2)]) (st' := [.int (Int32.ofInt (-1))]) E b_c11_seeded_12_1 rfl ?_
    have e : res = (Int32.ofInt (-1), s0) := g_inj hF
    subst e
    exact j_iret E hQ d_c11_seeded_13 (fun _ h => h)
theorem b_c11_judge_0_3 : bdec cX11_judge 0 [.aload_n 0, .iload_n 1, .iconst (-1)] = true := by decide +kernel
theorem d_c11_judge_3 : decode cX11_judge 3 = .ok (.invokevirtual 134, 3) := by decide +kernel
theorem b_c11_judge_6_2 : bdec cX11_judge 6 [.istore_n 2, .iload_n 2] = true := by decide +kernel
theorem d_c11_judge_8 : decode cX11_judge 8 = .ok (.ifCond .eq 5, 3) := by decide +kernel
theorem b_c11_judge_13_4 : bdec cX11_judge 13 [.bipush (-4), .istore_n 3, .iconst 0, .istore 4] = true := by decide +kernel
theorem b_c11_judge_19_4 : bdec cX11_judge 19 [.iload 4, .iconst 2, .iadd, .aload_n 0] = true := by decide +kernel
theorem d_c11_judge_24 : decode cX11_judge 24 = .ok (.getfield 28, 3) := by decide +kernel
theorem b_c11_judge_27_1 : bdec cX11_judge 27 [.iload_n 1] = true := by decide +kernel
theorem d_c11_judge_28 : decode cX11_judge 28 = .ok (.iaload, 1) := by decide +kernel
theorem d_c11_judge_29 : decode cX11_judge 29 = .ok (.if_icmp .ge 21, 3) := by decide +kernel
theorem b_c11_judge_32_1 : bdec cX11_judge 32 [.iload_n 3] = true := by decide +kernel
theorem d_c11_judge_33 : decode cX11_judge 33 = .ok (.ifCond .ge 17, 3) := by decide +kernel
theorem b_c11_judge_36_3 : bdec cX11_judge 36 [.aload_n 0, .iload_n 1, .iload 4] = true := by decide +kernel
theorem d_c11_judge_40 : decode cX11_judge 40 = .ok (.invokevirtual 237, 3) := by decide +kernel
theorem b_c11_judge_43_2 : bdec cX11_judge 43 [.istore_n 3, .iinc 4 3] = true := by decide +kernel
theorem d_c11_judge_47 : decode cX11_judge 47 = .ok (.goto (-28), 3) := by decide +kernel
theorem b_c11_judge_50_1 : bdec cX11_judge 50 [.iload_n 3] = true := by decide +kernel
theorem d_c11_judge_51 : decode cX11_judge 51 = .ok (.ifCond .ge 14, 3) := by decide +kernel
theorem b_c11_judge_65_1 : bdec cX11_judge 65 [.iload_n 3] = true := by decide +kernel
theorem d_c11_judge_66 : decode cX11_judge 66 = .ok (.goto 5, 3) := by decide +kernel
theorem d_c11_judge_71 : decode cX11_judge 71 = .ok (.ireturn, 1) := by decide +kernel
theorem b_c11_judge_54_1 : bdec cX11_judge 54 [.aload_n 0] = true := by decide +kernel
theorem d_c11_judge_55 : decode cX11_judge 55 = .ok (.getfield 28, 3) := by decide +kernel
theorem b_c11_judge_58_1 : bdec cX11_judge 58 [.iload_n 1] = true := by decide +kernel
theorem d_c11_judge_59 : decode cX11_judge 59 = .ok (.iaload, 1) := by decide +kernel
theorem b_c11_judge_60_1 : bdec cX11_judge 60 [.iconst 3] = true := by decide +kernel
theorem d_c11_judge_61 : decode cX11_judge 61 = .ok (.irem, 1) := by decide +kernel
theorem d_c11_judge_62 : decode cX11_judge 62 = .ok (.ifCond .ne 7, 3) := by decide +kernel
theorem b_c11_judge_69_1 : bdec cX11_judge 69 [.iload 4] = true := by decide +kernel
theorem b_c11_judge_11_1 : bdec cX11_judge 11 [.iload_n 2] = true := by decide +kernel
theorem d_c11_judge_12 : decode cX11_judge 12 = .ok (.ireturn, 1) := by decide +kernel
def f11_judge_L19 (s0 : HM) (a0 : Nat) (p1 : Int32) (w : Int32 × Int32) : Option ((Int32 × Int32) ⊕ (Int32 × Int32)) := match w with
  | (x19_3, x19_4) => obd (hfld s0 [11] 6 a0) (fun v5 => orf v5 (fun b6 => obd (hald s0 b6 p1) (fun v7 => if v7 ≤ (x19_4 + (Int32.ofInt 2)) then (some (.inr (x19_3, x19_4))) else (if 0 ≤ x19_3 then (some (.inr (x19_3, x19_4))) else (ocl s0 a0 11 (obd (f11_wrongThree s0 a0 p1 x19_4) (fun v11 => some (.inl (v11, x19_4 + Int32.ofInt 3)))))))))
def f11_judge (s0 : HM) (a0 : Nat) (p1 : Int32) : Option (Int32) := ocl s0 a0 11 (obd (f11_wrongRow s0 a0 p1 (Int32.ofInt (-1))) (fun v2 => if v2 = 0 then (obd (iter (f11_judge_L19 s0 a0 p1) FU ((Int8.ofInt (-4)).toInt32, Int32.ofInt 0)) (fun o4 => match o4 with | (e19_3, e19_4) => if 0 ≤ e19_3 then (some e19_3) else (obd (hfld s0 [11] 6 a0) (fun v13 => orf v13 (fun b14 => obd (hald s0 b14 p1) (fun v15 => onz (Int32.ofInt 3) (if (v15 - v15 / (Int32.ofInt 3) * (Int32.ofInt 3)) = 0 then (some e19_3) else (some e19_4)))))))) else (some v2)))
set_option maxRecDepth 100000 in
set_option maxHeartbeats 4000000 in
theorem c11_judge (l : Launch) (κ : KP) (A : Nat → Prop) (s0 : HM) (a0 : Nat) (p1 : Int32) {res : Int32} (hF : f11_judge s0 a0 p1 = some res) : Met l yX11_judge (Cond.code yX11_judge cX11_judge 5 (some .int) :: WT) (rmL 4 0 0) (PP κ A [.ref a0, .int p1] (HS κ A s0)) (QQ (some (.int res)) (HS κ A s0) A) 0 0 A := by
  refine met_of (own := RX11) (by decide) rfl (Nat.le_of_ble_eq_true rfl) ?_
  intro Γ E hQ hL hR hA hent hini
  have hAA : ∀ q, A q → jA Γ q := fun q h => by rw [hA]; exact h
  have hroom : ∀ (d mL : Nat) {mc ms : Nat}, d < 4 → mL ≤ 21 → (rmL d mc ms).frames + 1 ≤ (jR Γ).frames ∧ 8 + (mL + 11) + (rmL d mc ms).locals ≤ (jR Γ).locals := fun d mL mc ms h1 h2 => by rw [hR]; exact rmL_le h1 h2
  show J Γ 5 (HS κ A s0) 0 0 0 [(0, .ref a0), (1, .int p1)] []
  unfold f11_judge at hF
  refine j_blk (pc' := 3) (lv' := [(0, .ref a0), (1, .int p1)]) (st' := [.int (Int32.ofInt (-1)), .int p1, .ref a0]) E b_c11_judge_0_3 rfl ?_
  replace hF := ocl_at hF
  obtain ⟨hc, hF⟩ := hF
  replace hF := obd_at hF
  obtain ⟨v2, he1, hF⟩ := hF
  refine j_callv [.int p1, .int (Int32.ofInt (-1))] [] E w_RX11_134 (hroom 2 3 (by decide) (by decide)) hAA (c11_wrongRow _ κ A _ _ _ _  he1) (fun _ h => h) (fun _ _ _ h _ _ => h) (fun _ h => j_recv E h hc rfl) rfl rfl (Nat.le_of_ble_eq_true rfl) d_c11_judge_3 ⟨Nat.zero_le _, Nat.zero_le _⟩ ?_
  refine j_blk (pc' := 8) (lv' := [(2, .int v2), (0, .ref a0), (1, .int p1)]) (st' := [.int v2]) E b_c11_judge_6_2 rfl ?_
  refine j_if_eq (tgt := 13) E d_c11_judge_8 (by decide) (fun h3 => ?_) (fun h3 => ?_)
  · replace hF := g_t hF h3
    refine j_blk (pc' := 19) (lv' := [(4, .int (Int32.ofInt 0)), (3, .int ((Int8.ofInt (-4)).toInt32)), (2, .int v2), (0, .ref a0), (1, .int p1)]) (st' := []) E b_c11_judge_13_4 rfl ?_
    refine j_lv [3, 4, 1, 0] rfl ?_
    replace hF := obd_at hF
    obtain ⟨o4, ho4, hF⟩ := hF
    have lpo4 : ∀ (fu : Nat) (w : Int32 × Int32) (o : Int32 × Int32), iter (f11_judge_L19 s0 a0 p1) fu w = some o → (fun (o : Int32 × Int32) => J Γ 5 (HS κ A s0) 0 0 50 [(0, .ref a0), (1, .int p1), (3, .int o.1), (4, .int o.2)] []) o → (fun (w : Int32 × Int32) => J Γ 5 (HS κ A s0) 0 0 19 [(0, .ref a0), (1, .int p1), (3, .int w.1), (4, .int w.2)] []) w := by
      refine j_iter (P := fun (w : Int32 × Int32) => J Γ 5 (HS κ A s0) 0 0 19 [(0, .ref a0), (1, .int p1), (3, .int w.1), (4, .int w.2)] []) (G := fun (o : Int32 × Int32) => J Γ 5 (HS κ A s0) 0 0 50 [(0, .ref a0), (1, .int p1), (3, .int o.1), (4, .int o.2)] []) ?_
      rintro ⟨x19_3, x19_4⟩ q hF hI hO
      show J Γ 5 (HS κ A s0) 0 0 19 [(0, .ref a0), (1, .int p1), (3, .int x19_3), (4, .int x19_4)] []
      unfold f11_judge_L19 at hF
      refine j_blk (pc' := 24) (lv' := [(0, .ref a0), (1, .int p1), (3, .int x19_3), (4, .int x19_4)]) (st' := [.ref a0, .int (x19_4 + (Int32.ofInt 2))]) E b_c11_judge_19_4 rfl ?_
      replace hF := obd_at hF
      obtain ⟨v5, ev5, hF⟩ := hF
      refine j_getf E fg_RX11_28 d_c11_judge_24 ev5 ?_
      refine j_blk (pc' := 28) (lv' := [(0, .ref a0), (1, .int p1), (3, .int x19_3), (4, .int x19_4)]) (st' := [.int p1, v5, .int (x19_4 + (Int32.ofInt 2))]) E b_c11_judge_27_1 rfl ?_
      replace hF := orf_at hF
      obtain ⟨b6, rfl, hF⟩ := hF
      replace hF := obd_at hF
      obtain ⟨v7, ev7, hF⟩ := hF
      refine j_iald E d_c11_judge_28 ev7 ?_
      refine j_icmp_ge (tgt := 50) E d_c11_judge_29 (by decide) (fun h8 => ?_) (fun h8 => ?_)
      · replace hF := g_t hF h8
        exact hO _ (g_inj hF)
      · replace hF := g_f hF h8
        refine j_blk (pc' := 33) (lv' := [(0, .ref a0), (1, .int p1), (3, .int x19_3), (4, .int x19_4)]) (st' := [.int x19_3]) E b_c11_judge_32_1 rfl ?_
        refine j_if_ge (tgt := 50) E d_c11_judge_33 (by decide) (fun h9 => ?_) (fun h9 => ?_)
        · replace hF := g_t hF h9
          exact hO _ (g_inj hF)
        · replace hF := g_f hF h9
          refine j_blk (pc' := 40) (lv' := [(0, .ref a0), (1, .int p1), (3, .int x19_3), (4, .int x19_4)]) (st' := [.int x19_4, .int p1, .ref a0]) E b_c11_judge_36_3 rfl ?_
          replace hF := ocl_at hF
          obtain ⟨hc, hF⟩ := hF
          replace hF := obd_at hF
          obtain ⟨v11, he10, hF⟩ := hF
          refine j_callv [.int p1, .int x19_4] [] E w_RX11_237 (hroom 3 6 (by decide) (by decide)) hAA (c11_wrongThree _ κ A _ _ _ _  he10) (fun _ h => h) (fun _ _ _ h _ _ => h) (fun _ h => j_recv E h hc rfl) rfl rfl (Nat.le_of_ble_eq_true rfl) d_c11_judge_40 ⟨Nat.zero_le _, Nat.zero_le _⟩ ?_
          refine j_blk (pc' := 47) (lv' := [(4, .int (x19_4 + Int32.ofInt 3)), (3, .int v11), (0, .ref a0), (1, .int p1)]) (st' := []) E b_c11_judge_43_2 rfl ?_
          refine j_goto (tgt := 19) E d_c11_judge_47 (by decide) ?_
          refine j_lv [2, 3, 1, 0] rfl ?_
          exact hI _ (g_inj hF)
    refine lpo4 FU ((Int8.ofInt (-4)).toInt32, Int32.ofInt 0) o4 ho4 ?_
    obtain ⟨e19_3, e19_4⟩ := o4
    show J Γ 5 (HS κ A s0) 0 0 50 [(0, .ref a0), (1, .int p1), (3, .int e19_3), (4, .int e19_4)] []
    refine j_blk (pc' := 51) (lv' := [(0, .ref a0), (1, .int p1), (3, .int e19_3), (4, .int e19_4)]) (st' := [.int e19_3]) E b_c11_judge_50_1 rfl ?_
    refine j_if_ge (tgt := 65) E d_c11_judge_51 (by decide) (fun h12 => ?_) (fun h12 => ?_)
    · replace hF := g_t hF h12
      refine j_blk (pc' := 66) (lv' := [(0, .ref a0), (1, .int p1), (3, .int e19_3), (4, .int e19_4)]) (st' := [.int e19_3]) E b_c11_judge_65_1 rfl ?_
      refine j_goto (tgt := 71) E d_c11_judge_66 (by decide) ?_
      have e : res = e19_3 := g_inj hF
      subst e
      exact j_iret E hQ d_c11_judge_71 (fun _ h => h)
    · replace hF := g_f hF h12
      refine j_blk (pc' := 55) (lv' := [(0, .ref a0), (1, .int p1), (3, .int e19_3), (4, .int e19_4)]) (st' := [.ref a0]) E b_c11_judge_54_1 rfl ?_
      replace hF := obd_at hF
      obtain ⟨v13, ev13, hF⟩ := hF
      refine j_getf E fg_RX11_28 d_c11_judge_55 ev13 ?_
      refine j_blk (pc' := 59) (lv' := [(0, .ref a0), (1, .int p1), (3, .int e19_3), (4, .int e19_4)]) (st' := [.int p1, v13]) E b_c11_judge_58_1 rfl ?_
      replace hF := orf_at hF
      obtain ⟨b14, rfl, hF⟩ := hF
      replace hF := obd_at hF
      obtain ⟨v15, ev15, hF⟩ := hF
      refine j_iald E d_c11_judge_59 ev15 ?_
      refine j_blk (pc' := 61) (lv' := [(0, .ref a0), (1, .int p1), (3, .int e19_3), (4, .int e19_4)]) (st' := [.int (Int32.ofInt 3), .int v15]) E b_c11_judge_60_1 rfl ?_
      replace hF := onz_at hF
      obtain ⟨h0, hF⟩ := hF
      refine j_irem E d_c11_judge_61 h0 ?_
      refine j_if_ne (tgt := 69) E d_c11_judge_62 (by decide) (fun h16 => ?_) (fun h16 => ?_)
      · replace hF := g_f hF h16
        refine j_blk (pc' := 71) (lv' := [(0, .ref a0), (1, .int p1), (3, .int e19_3), (4, .int e19_4)]) (st' := [.int e19_4]) E b_c11_judge_69_1 rfl ?_
        have e : res = e19_4 := g_inj hF
        subst e
        exact j_iret E hQ d_c11_judge_71 (fun _ h => h)
      · replace hF := g_t hF h16
        refine j_blk (pc' := 66) (lv' := [(0, .ref a0), (1, .int p1), (3, .int e19_3), (4, .int e19_4)]) (st' := [.int e19_3]) E b_c11_judge_65_1 rfl ?_
        refine j_goto (tgt := 71) E d_c11_judge_66 (by decide) ?_
        have e : res = e19_3 := g_inj hF
        subst e
        exact j_iret E hQ d_c11_judge_71 (fun _ h => h)
  · replace hF := g_f hF h3
    refine j_blk (pc' := 12) (lv' := [(2, .int v2), (0, .ref a0), (1, .int p1)]) (st' := [.int v2]) E b_c11_judge_11_1 rfl ?_
    have e : res = v2 := g_inj hF
    subst e
    exact j_iret E hQ d_c11_judge_12 (fun _ h => h)
theorem b_c11_holding_0_1 : bdec cX11_holding 0 [.aload_n 0] = true := by decide +kernel
theorem d_c11_holding_1 : decode cX11_holding 1 = .ok (.invokevirtual 153, 3) := by decide +kernel
theorem d_c11_holding_4 : decode cX11_holding 4 = .ok (.ifCond .eq 11, 3) := by decide +kernel
theorem b_c11_holding_15_1 : bdec cX11_holding 15 [.iconst 0] = true := by decide +kernel
theorem d_c11_holding_16 : decode cX11_holding 16 = .ok (.ireturn, 1) := by decide +kernel
theorem b_c11_holding_7_2 : bdec cX11_holding 7 [.aload_n 0, .iconst 0] = true := by decide +kernel
theorem d_c11_holding_9 : decode cX11_holding 9 = .ok (.invokevirtual 159, 3) := by decide +kernel
theorem d_c11_holding_12 : decode cX11_holding 12 = .ok (.goto 4, 3) := by decide +kernel
def f11_holding (s0 : HM) (a0 : Nat) : Option (Int32 × HM) := ocl s0 a0 11 (obd (f11_isLawful s0 a0) (fun v2 => if v2 = 0 then (some (Int32.ofInt 0, s0)) else (ocl s0 a0 11 (obd (f11_turnedTo s0 a0 (Int32.ofInt 0)) (fun e4 => match e4 with | (v6, s5) => some (v6, s5))))))
set_option maxRecDepth 100000 in
set_option maxHeartbeats 4000000 in
theorem c11_holding (l : Launch) (κ : KP) (A : Nat → Prop) (s0 : HM) (a0 : Nat) {res : Int32 × HM} (hF : f11_holding s0 a0 = some res) : Met l yX11_holding (Cond.code yX11_holding cX11_holding 1 (some .int) :: WT) (rmL 5 0 0) (PP κ A [.ref a0] (HS κ A s0)) (QQ (some (.int res.1)) (HS κ A res.2) A) 0 0 A := by
  refine met_of (own := RX11) (by decide) rfl (Nat.le_of_ble_eq_true rfl) ?_
  intro Γ E hQ hL hR hA hent hini
  have hAA : ∀ q, A q → jA Γ q := fun q h => by rw [hA]; exact h
  have hroom : ∀ (d mL : Nat) {mc ms : Nat}, d < 5 → mL ≤ 21 → (rmL d mc ms).frames + 1 ≤ (jR Γ).frames ∧ 8 + (mL + 11) + (rmL d mc ms).locals ≤ (jR Γ).locals := fun d mL mc ms h1 h2 => by rw [hR]; exact rmL_le h1 h2
  show J Γ 1 (HS κ A s0) 0 0 0 [(0, .ref a0)] []
  unfold f11_holding at hF
  refine j_blk (pc' := 1) (lv' := [(0, .ref a0)]) (st' := [.ref a0]) E b_c11_holding_0_1 rfl ?_
  replace hF := ocl_at hF
  obtain ⟨hc, hF⟩ := hF
  replace hF := obd_at hF
  obtain ⟨v2, he1, hF⟩ := hF
  refine j_callv [] [] E w_RX11_153 (hroom 3 3 (by decide) (by decide)) hAA (c11_isLawful _ κ A _ _  he1) (fun _ h => h) (fun _ _ _ h _ _ => h) (fun _ h => j_recv E h hc rfl) rfl rfl (Nat.le_of_ble_eq_true rfl) d_c11_holding_1 ⟨Nat.zero_le _, Nat.zero_le _⟩ ?_
  refine j_if_eq (tgt := 15) E d_c11_holding_4 (by decide) (fun h3 => ?_) (fun h3 => ?_)
  · replace hF := g_t hF h3
    refine j_blk (pc' := 16) (lv' := [(0, .ref a0)]) (st' := [.int (Int32.ofInt 0)]) E b_c11_holding_15_1 rfl ?_
    have e : res = (Int32.ofInt 0, s0) := g_inj hF
    subst e
    exact j_iret E hQ d_c11_holding_16 (fun _ h => h)
  · replace hF := g_f hF h3
    refine j_blk (pc' := 9) (lv' := [(0, .ref a0)]) (st' := [.int (Int32.ofInt 0), .ref a0]) E b_c11_holding_7_2 rfl ?_
    replace hF := ocl_at hF
    obtain ⟨hc, hF⟩ := hF
    replace hF := obd_at hF
    obtain ⟨⟨v6, s5⟩, he4, hF⟩ := hF
    refine j_callv [.int (Int32.ofInt 0)] [] E w_RX11_159 (hroom 4 5 (by decide) (by decide)) hAA (c11_turnedTo _ κ A _ _ _  he4) (fun _ h => h) (fun _ _ _ h _ _ => h) (fun _ h => j_recv E h hc rfl) rfl rfl (Nat.le_of_ble_eq_true rfl) d_c11_holding_9 ⟨Nat.zero_le _, Nat.zero_le _⟩ ?_
    refine j_goto (tgt := 16) E d_c11_holding_12 (by decide) ?_
    have e : res = (v6, s5) := g_inj hF
    subst e
    exact j_iret E hQ d_c11_holding_16 (fun _ h => h)
theorem b_c11_free_0_2 : bdec cX11_free 0 [.aload_n 0, .iconst 1] = true := by decide +kernel
theorem d_c11_free_2 : decode cX11_free 2 = .ok (.invokevirtual 159, 3) := by decide +kernel
theorem d_c11_free_5 : decode cX11_free 5 = .ok (.ireturn, 1) := by decide +kernel
def f11_free (s0 : HM) (a0 : Nat) : Option (Int32 × HM) := ocl s0 a0 11 (obd (f11_turnedTo s0 a0 (Int32.ofInt 1)) (fun e1 => match e1 with | (v3, s2) => some (v3, s2)))
set_option maxRecDepth 100000 in
set_option maxHeartbeats 4000000 in
theorem c11_free (l : Launch) (κ : KP) (A : Nat → Prop) (s0 : HM) (a0 : Nat) {res : Int32 × HM} (hF : f11_free s0 a0 = some res) : Met l yX11_free (Cond.code yX11_free cX11_free 1 (some .int) :: WT) (rmL 5 0 0) (PP κ A [.ref a0] (HS κ A s0)) (QQ (some (.int res.1)) (HS κ A res.2) A) 0 0 A := by
  refine met_of (own := RX11) (by decide) rfl (Nat.le_of_ble_eq_true rfl) ?_
  intro Γ E hQ hL hR hA hent hini
  have hAA : ∀ q, A q → jA Γ q := fun q h => by rw [hA]; exact h
  have hroom : ∀ (d mL : Nat) {mc ms : Nat}, d < 5 → mL ≤ 21 → (rmL d mc ms).frames + 1 ≤ (jR Γ).frames ∧ 8 + (mL + 11) + (rmL d mc ms).locals ≤ (jR Γ).locals := fun d mL mc ms h1 h2 => by rw [hR]; exact rmL_le h1 h2
  show J Γ 1 (HS κ A s0) 0 0 0 [(0, .ref a0)] []
  unfold f11_free at hF
  refine j_blk (pc' := 2) (lv' := [(0, .ref a0)]) (st' := [.int (Int32.ofInt 1), .ref a0]) E b_c11_free_0_2 rfl ?_
  replace hF := ocl_at hF
  obtain ⟨hc, hF⟩ := hF
  replace hF := obd_at hF
  obtain ⟨⟨v3, s2⟩, he1, hF⟩ := hF
  refine j_callv [.int (Int32.ofInt 1)] [] E w_RX11_159 (hroom 4 5 (by decide) (by decide)) hAA (c11_turnedTo _ κ A _ _ _  he1) (fun _ h => h) (fun _ _ _ h _ _ => h) (fun _ h => j_recv E h hc rfl) rfl rfl (Nat.le_of_ble_eq_true rfl) d_c11_free_2 ⟨Nat.zero_le _, Nat.zero_le _⟩ ?_
  have e : res = (v3, s2) := g_inj hF
  subst e
  exact j_iret E hQ d_c11_free_5 (fun _ h => h)
