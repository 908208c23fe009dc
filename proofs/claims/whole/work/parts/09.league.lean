/-! METHODS (by program): what each does, and that its bytecode does it -/
theorem b_c2_become_0_2 : bdec cX2_become 0 [.iconst 0, .istore_n 2] = true := by decide +kernel
theorem b_c2_become_2_2 : bdec cX2_become 2 [.iload_n 2, .bipush 8] = true := by decide +kernel
theorem d_c2_become_5 : decode cX2_become 5 = .ok (.if_icmp .ge 33, 3) := by decide +kernel
theorem b_c2_become_8_1 : bdec cX2_become 8 [.aload_n 0] = true := by decide +kernel
theorem d_c2_become_9 : decode cX2_become 9 = .ok (.getfield 11, 3) := by decide +kernel
theorem b_c2_become_12_2 : bdec cX2_become 12 [.iload_n 2, .aload_n 1] = true := by decide +kernel
theorem d_c2_become_14 : decode cX2_become 14 = .ok (.getfield 11, 3) := by decide +kernel
theorem b_c2_become_17_1 : bdec cX2_become 17 [.iload_n 2] = true := by decide +kernel
theorem d_c2_become_18 : decode cX2_become 18 = .ok (.aaload, 1) := by decide +kernel
theorem d_c2_become_19 : decode cX2_become 19 = .ok (.aastore, 1) := by decide +kernel
theorem b_c2_become_20_1 : bdec cX2_become 20 [.aload_n 0] = true := by decide +kernel
theorem d_c2_become_21 : decode cX2_become 21 = .ok (.getfield 17, 3) := by decide +kernel
theorem b_c2_become_24_2 : bdec cX2_become 24 [.iload_n 2, .aload_n 1] = true := by decide +kernel
theorem d_c2_become_26 : decode cX2_become 26 = .ok (.getfield 17, 3) := by decide +kernel
theorem b_c2_become_29_1 : bdec cX2_become 29 [.iload_n 2] = true := by decide +kernel
theorem d_c2_become_30 : decode cX2_become 30 = .ok (.iaload, 1) := by decide +kernel
theorem d_c2_become_31 : decode cX2_become 31 = .ok (.iastore, 1) := by decide +kernel
theorem b_c2_become_32_1 : bdec cX2_become 32 [.iinc 2 1] = true := by decide +kernel
theorem d_c2_become_35 : decode cX2_become 35 = .ok (.goto (-33), 3) := by decide +kernel
theorem b_c2_become_38_2 : bdec cX2_become 38 [.aload_n 0, .aload_n 1] = true := by decide +kernel
theorem d_c2_become_40 : decode cX2_become 40 = .ok (.getfield 21, 3) := by decide +kernel
theorem d_c2_become_43 : decode cX2_become 43 = .ok (.putfield 21, 3) := by decide +kernel
theorem b_c2_become_46_2 : bdec cX2_become 46 [.aload_n 0, .aload_n 1] = true := by decide +kernel
theorem d_c2_become_48 : decode cX2_become 48 = .ok (.getfield 25, 3) := by decide +kernel
theorem d_c2_become_51 : decode cX2_become 51 = .ok (.putfield 25, 3) := by decide +kernel
theorem d_c2_become_54 : decode cX2_become 54 = .ok (.return_, 1) := by decide +kernel
def f2_become_L2 (a0 : Nat) (p1 : Nat) (w : Int32 × HM) : Option ((Int32 × HM) ⊕ (HM)) := match w with
  | (x2_2, s2) => if ((Int8.ofInt 8).toInt32) ≤ x2_2 then (some (.inr s2)) else (obd (hfld s2 [2] 0 a0) (fun v3 => obd (hfld s2 [2] 0 p1) (fun v4 => orf v4 (fun b5 => obd (hrld s2 b5 x2_2) (fun v6 => orf v3 (fun b7 => obd (hrst s2 b7 x2_2 v6) (fun s8 => obd (hfld s8 [2] 1 a0) (fun v9 => obd (hfld s8 [2] 1 p1) (fun v10 => orf v10 (fun b11 => obd (hald s8 b11 x2_2) (fun v12 => orf v9 (fun b13 => obd (hast s8 b13 x2_2 v12) (fun s14 => some (.inl (x2_2 + Int32.ofInt 1, s14)))))))))))))))
def f2_become (s0 : HM) (a0 : Nat) (p1 : Nat) : Option (HM) := obd (iter (f2_become_L2 a0 p1) FU (Int32.ofInt 0, s0)) (fun o1 => match o1 with | t2 => obd (hfi t2 [2] 2 p1) (fun v15 => obd (hput t2 [2] 2 a0 (.int v15)) (fun s16 => obd (hfi s16 [2] 3 p1) (fun v17 => obd (hput s16 [2] 3 a0 (.int v17)) (fun s18 => some s18)))))
set_option maxRecDepth 100000 in
set_option maxHeartbeats 4000000 in
theorem c2_become (l : Launch) (κ : KP) (A : Nat → Prop) (s0 : HM) (a0 : Nat) (p1 : Nat) {res : HM} (hF : f2_become s0 a0 p1 = some res) : Met l yX2_become (Cond.code yX2_become cX2_become 3 none :: WT) (rmL 0 0 0) (PP κ A [.ref a0, .ref p1] (HS κ A s0)) (QQ none (HS κ A res) A) 0 0 A := by
  refine met_of (own := RX2) (by decide) rfl (Nat.le_of_ble_eq_true rfl) ?_
  intro Γ E hQ hL hR hA hent hini
  have hAA : ∀ q, A q → jA Γ q := fun q h => by rw [hA]; exact h
  have hroom : ∀ (d mL : Nat) {mc ms : Nat}, d < 0 → mL ≤ 21 → (rmL d mc ms).frames + 1 ≤ (jR Γ).frames ∧ 8 + (mL + 11) + (rmL d mc ms).locals ≤ (jR Γ).locals := fun d mL mc ms h1 h2 => by rw [hR]; exact rmL_le h1 h2
  show J Γ 3 (HS κ A s0) 0 0 0 [(0, .ref a0), (1, .ref p1)] []
  unfold f2_become at hF
  refine j_blk (pc' := 2) (lv' := [(2, .int (Int32.ofInt 0)), (0, .ref a0), (1, .ref p1)]) (st' := []) E b_c2_become_0_2 rfl ?_
  refine j_lv [1, 2, 0] rfl ?_
  replace hF := obd_at hF
  obtain ⟨o1, ho1, hF⟩ := hF
  have lpo1 : ∀ (fu : Nat) (w : Int32 × HM) (o : HM), iter (f2_become_L2 a0 p1) fu w = some o → (fun (o : HM) => J Γ 3 (HS κ A o) 0 0 38 [(0, .ref a0), (1, .ref p1)] []) o → (fun (w : Int32 × HM) => J Γ 3 (HS κ A w.2) 0 0 2 [(0, .ref a0), (1, .ref p1), (2, .int w.1)] []) w := by
    refine j_iter (P := fun (w : Int32 × HM) => J Γ 3 (HS κ A w.2) 0 0 2 [(0, .ref a0), (1, .ref p1), (2, .int w.1)] []) (G := fun (o : HM) => J Γ 3 (HS κ A o) 0 0 38 [(0, .ref a0), (1, .ref p1)] []) ?_
    rintro ⟨x2_2, s2⟩ q hF hI hO
    show J Γ 3 (HS κ A s2) 0 0 2 [(0, .ref a0), (1, .ref p1), (2, .int x2_2)] []
    unfold f2_become_L2 at hF
    refine j_blk (pc' := 5) (lv' := [(0, .ref a0), (1, .ref p1), (2, .int x2_2)]) (st' := [.int ((Int8.ofInt 8).toInt32), .int x2_2]) E b_c2_become_2_2 rfl ?_
    refine j_icmp_ge (tgt := 38) E d_c2_become_5 (by decide) (fun h2 => ?_) (fun h2 => ?_)
    · replace hF := g_t hF h2
      refine j_lv [0, 1] rfl ?_
      exact hO _ (g_inj hF)
    · replace hF := g_f hF h2
      refine j_blk (pc' := 9) (lv' := [(0, .ref a0), (1, .ref p1), (2, .int x2_2)]) (st' := [.ref a0]) E b_c2_become_8_1 rfl ?_
      replace hF := obd_at hF
      obtain ⟨v3, ev3, hF⟩ := hF
      refine j_getf E fg_RX2_11 d_c2_become_9 ev3 ?_
      refine j_blk (pc' := 14) (lv' := [(0, .ref a0), (1, .ref p1), (2, .int x2_2)]) (st' := [.ref p1, .int x2_2, v3]) E b_c2_become_12_2 rfl ?_
      replace hF := obd_at hF
      obtain ⟨v4, ev4, hF⟩ := hF
      refine j_getf E fg_RX2_11 d_c2_become_14 ev4 ?_
      refine j_blk (pc' := 18) (lv' := [(0, .ref a0), (1, .ref p1), (2, .int x2_2)]) (st' := [.int x2_2, v4, .int x2_2, v3]) E b_c2_become_17_1 rfl ?_
      replace hF := orf_at hF
      obtain ⟨b5, rfl, hF⟩ := hF
      replace hF := obd_at hF
      obtain ⟨v6, ev6, hF⟩ := hF
      refine j_rald E d_c2_become_18 ev6 ?_
      replace hF := orf_at hF
      obtain ⟨b7, rfl, hF⟩ := hF
      replace hF := obd_at hF
      obtain ⟨s8, es8, hF⟩ := hF
      refine j_rast E ra_ok d_c2_become_19 es8 hAA ?_
      refine j_blk (pc' := 21) (lv' := [(0, .ref a0), (1, .ref p1), (2, .int x2_2)]) (st' := [.ref a0]) E b_c2_become_20_1 rfl ?_
      replace hF := obd_at hF
      obtain ⟨v9, ev9, hF⟩ := hF
      refine j_getf E fg_RX2_17 d_c2_become_21 ev9 ?_
      refine j_blk (pc' := 26) (lv' := [(0, .ref a0), (1, .ref p1), (2, .int x2_2)]) (st' := [.ref p1, .int x2_2, v9]) E b_c2_become_24_2 rfl ?_
      replace hF := obd_at hF
      obtain ⟨v10, ev10, hF⟩ := hF
      refine j_getf E fg_RX2_17 d_c2_become_26 ev10 ?_
      refine j_blk (pc' := 30) (lv' := [(0, .ref a0), (1, .ref p1), (2, .int x2_2)]) (st' := [.int x2_2, v10, .int x2_2, v9]) E b_c2_become_29_1 rfl ?_
      replace hF := orf_at hF
      obtain ⟨b11, rfl, hF⟩ := hF
      replace hF := obd_at hF
      obtain ⟨v12, ev12, hF⟩ := hF
      refine j_iald E d_c2_become_30 ev12 ?_
      replace hF := orf_at hF
      obtain ⟨b13, rfl, hF⟩ := hF
      replace hF := obd_at hF
      obtain ⟨s14, es14, hF⟩ := hF
      refine j_iast E d_c2_become_31 es14 hAA ?_
      refine j_blk (pc' := 35) (lv' := [(2, .int (x2_2 + Int32.ofInt 1)), (0, .ref a0), (1, .ref p1)]) (st' := []) E b_c2_become_32_1 rfl ?_
      refine j_goto (tgt := 2) E d_c2_become_35 (by decide) ?_
      refine j_lv [1, 2, 0] rfl ?_
      exact hI _ (g_inj hF)
  refine lpo1 FU (Int32.ofInt 0, s0) o1 ho1 ?_
  obtain ⟨t2, rfl⟩ : ∃ z, z = o1 := ⟨_, rfl⟩
  show J Γ 3 (HS κ A t2) 0 0 38 [(0, .ref a0), (1, .ref p1)] []
  refine j_blk (pc' := 40) (lv' := [(0, .ref a0), (1, .ref p1)]) (st' := [.ref p1, .ref a0]) E b_c2_become_38_2 rfl ?_
  replace hF := obd_at hF
  obtain ⟨v15, ev15, hF⟩ := hF
  refine j_getI E fg_RX2_21 d_c2_become_40 ev15 ?_
  replace hF := obd_at hF
  obtain ⟨s16, es16, hF⟩ := hF
  refine j_put E fp_RX2_21 d_c2_become_43 rfl rfl es16 hAA ?_
  refine j_blk (pc' := 48) (lv' := [(0, .ref a0), (1, .ref p1)]) (st' := [.ref p1, .ref a0]) E b_c2_become_46_2 rfl ?_
  replace hF := obd_at hF
  obtain ⟨v17, ev17, hF⟩ := hF
  refine j_getI E fg_RX2_25 d_c2_become_48 ev17 ?_
  replace hF := obd_at hF
  obtain ⟨s18, es18, hF⟩ := hF
  refine j_put E fp_RX2_25 d_c2_become_51 rfl rfl es18 hAA ?_
  have e : res = s18 := g_inj hF
  subst e
  exact j_vret E hQ d_c2_become_54 (fun _ h => h)
theorem b_c2_has_0_1 : bdec cX2_has 0 [.iload_n 1] = true := by decide +kernel
theorem d_c2_has_1 : decode cX2_has 1 = .ok (.ifCond .lt 15, 3) := by decide +kernel
theorem b_c2_has_16_1 : bdec cX2_has 16 [.iconst 0] = true := by decide +kernel
theorem d_c2_has_17 : decode cX2_has 17 = .ok (.ireturn, 1) := by decide +kernel
theorem b_c2_has_4_2 : bdec cX2_has 4 [.iload_n 1, .aload_n 0] = true := by decide +kernel
theorem d_c2_has_6 : decode cX2_has 6 = .ok (.getfield 21, 3) := by decide +kernel
theorem d_c2_has_9 : decode cX2_has 9 = .ok (.if_icmp .ge 7, 3) := by decide +kernel
theorem b_c2_has_12_1 : bdec cX2_has 12 [.iconst 1] = true := by decide +kernel
theorem d_c2_has_13 : decode cX2_has 13 = .ok (.goto 4, 3) := by decide +kernel
def f2_has (s0 : HM) (a0 : Nat) (p1 : Int32) : Option (Int32) := if p1 < 0 then (some (Int32.ofInt 0)) else (obd (hfi s0 [2] 2 a0) (fun v2 => if v2 ≤ p1 then (some (Int32.ofInt 0)) else (some (Int32.ofInt 1))))
set_option maxRecDepth 100000 in
set_option maxHeartbeats 4000000 in
theorem c2_has (l : Launch) (κ : KP) (A : Nat → Prop) (s0 : HM) (a0 : Nat) (p1 : Int32) {res : Int32} (hF : f2_has s0 a0 p1 = some res) : Met l yX2_has (Cond.code yX2_has cX2_has 2 (some .boolean) :: WT) (rmL 0 0 0) (PP κ A [.ref a0, .int p1] (HS κ A s0)) (QQ (some (.int res)) (HS κ A s0) A) 0 0 A := by
  refine met_of (own := RX2) (by decide) rfl (Nat.le_of_ble_eq_true rfl) ?_
  intro Γ E hQ hL hR hA hent hini
  have hAA : ∀ q, A q → jA Γ q := fun q h => by rw [hA]; exact h
  have hroom : ∀ (d mL : Nat) {mc ms : Nat}, d < 0 → mL ≤ 21 → (rmL d mc ms).frames + 1 ≤ (jR Γ).frames ∧ 8 + (mL + 11) + (rmL d mc ms).locals ≤ (jR Γ).locals := fun d mL mc ms h1 h2 => by rw [hR]; exact rmL_le h1 h2
  show J Γ 2 (HS κ A s0) 0 0 0 [(0, .ref a0), (1, .int p1)] []
  unfold f2_has at hF
  refine j_blk (pc' := 1) (lv' := [(0, .ref a0), (1, .int p1)]) (st' := [.int p1]) E b_c2_has_0_1 rfl ?_
  refine j_if_lt (tgt := 16) E d_c2_has_1 (by decide) (fun h1 => ?_) (fun h1 => ?_)
  · replace hF := g_t hF h1
    refine j_blk (pc' := 17) (lv' := [(0, .ref a0), (1, .int p1)]) (st' := [.int (Int32.ofInt 0)]) E b_c2_has_16_1 rfl ?_
    have e : res = Int32.ofInt 0 := g_inj hF
    subst e
    exact j_zret E hQ nb_0 d_c2_has_17 (fun _ h => h)
  · replace hF := g_f hF h1
    refine j_blk (pc' := 6) (lv' := [(0, .ref a0), (1, .int p1)]) (st' := [.ref a0, .int p1]) E b_c2_has_4_2 rfl ?_
    replace hF := obd_at hF
    obtain ⟨v2, ev2, hF⟩ := hF
    refine j_getI E fg_RX2_21 d_c2_has_6 ev2 ?_
    refine j_icmp_ge (tgt := 16) E d_c2_has_9 (by decide) (fun h3 => ?_) (fun h3 => ?_)
    · replace hF := g_t hF h3
      refine j_blk (pc' := 17) (lv' := [(0, .ref a0), (1, .int p1)]) (st' := [.int (Int32.ofInt 0)]) E b_c2_has_16_1 rfl ?_
      have e : res = Int32.ofInt 0 := g_inj hF
      subst e
      exact j_zret E hQ nb_0 d_c2_has_17 (fun _ h => h)
    · replace hF := g_f hF h3
      refine j_blk (pc' := 13) (lv' := [(0, .ref a0), (1, .int p1)]) (st' := [.int (Int32.ofInt 1)]) E b_c2_has_12_1 rfl ?_
      refine j_goto (tgt := 17) E d_c2_has_13 (by decide) ?_
      have e : res = Int32.ofInt 1 := g_inj hF
      subst e
      exact j_zret E hQ nb_1 d_c2_has_17 (fun _ h => h)
theorem b_c2_hasBeaten_0_1 : bdec cX2_hasBeaten 0 [.aload_n 0] = true := by decide +kernel
theorem d_c2_hasBeaten_1 : decode cX2_hasBeaten 1 = .ok (.getfield 17, 3) := by decide +kernel
theorem b_c2_hasBeaten_4_1 : bdec cX2_hasBeaten 4 [.iload_n 1] = true := by decide +kernel
theorem d_c2_hasBeaten_5 : decode cX2_hasBeaten 5 = .ok (.iaload, 1) := by decide +kernel
theorem b_c2_hasBeaten_6_4 : bdec cX2_hasBeaten 6 [.iload_n 2, .ishr, .iconst 1, .iand] = true := by decide +kernel
theorem d_c2_hasBeaten_10 : decode cX2_hasBeaten 10 = .ok (.ifCond .eq 7, 3) := by decide +kernel
theorem b_c2_hasBeaten_17_1 : bdec cX2_hasBeaten 17 [.iconst 0] = true := by decide +kernel
theorem d_c2_hasBeaten_18 : decode cX2_hasBeaten 18 = .ok (.ireturn, 1) := by decide +kernel
theorem b_c2_hasBeaten_13_1 : bdec cX2_hasBeaten 13 [.iconst 1] = true := by decide +kernel
theorem d_c2_hasBeaten_14 : decode cX2_hasBeaten 14 = .ok (.goto 4, 3) := by decide +kernel
def f2_hasBeaten (s0 : HM) (a0 : Nat) (p1 : Int32) (p2 : Int32) : Option (Int32) := obd (hfld s0 [2] 1 a0) (fun v1 => orf v1 (fun b2 => obd (hald s0 b2 p1) (fun v3 => if ((v3 >>> (p2 &&& 31)) &&& (Int32.ofInt 1)) = 0 then (some (Int32.ofInt 0)) else (some (Int32.ofInt 1)))))
set_option maxRecDepth 100000 in
set_option maxHeartbeats 4000000 in
theorem c2_hasBeaten (l : Launch) (κ : KP) (A : Nat → Prop) (s0 : HM) (a0 : Nat) (p1 : Int32) (p2 : Int32) {res : Int32} (hF : f2_hasBeaten s0 a0 p1 p2 = some res) : Met l yX2_hasBeaten (Cond.code yX2_hasBeaten cX2_hasBeaten 3 (some .boolean) :: WT) (rmL 0 0 0) (PP κ A [.ref a0, .int p1, .int p2] (HS κ A s0)) (QQ (some (.int res)) (HS κ A s0) A) 0 0 A := by
  refine met_of (own := RX2) (by decide) rfl (Nat.le_of_ble_eq_true rfl) ?_
  intro Γ E hQ hL hR hA hent hini
  have hAA : ∀ q, A q → jA Γ q := fun q h => by rw [hA]; exact h
  have hroom : ∀ (d mL : Nat) {mc ms : Nat}, d < 0 → mL ≤ 21 → (rmL d mc ms).frames + 1 ≤ (jR Γ).frames ∧ 8 + (mL + 11) + (rmL d mc ms).locals ≤ (jR Γ).locals := fun d mL mc ms h1 h2 => by rw [hR]; exact rmL_le h1 h2
  show J Γ 3 (HS κ A s0) 0 0 0 [(0, .ref a0), (1, .int p1), (2, .int p2)] []
  unfold f2_hasBeaten at hF
  refine j_blk (pc' := 1) (lv' := [(0, .ref a0), (1, .int p1), (2, .int p2)]) (st' := [.ref a0]) E b_c2_hasBeaten_0_1 rfl ?_
  replace hF := obd_at hF
  obtain ⟨v1, ev1, hF⟩ := hF
  refine j_getf E fg_RX2_17 d_c2_hasBeaten_1 ev1 ?_
  refine j_blk (pc' := 5) (lv' := [(0, .ref a0), (1, .int p1), (2, .int p2)]) (st' := [.int p1, v1]) E b_c2_hasBeaten_4_1 rfl ?_
  replace hF := orf_at hF
  obtain ⟨b2, rfl, hF⟩ := hF
  replace hF := obd_at hF
  obtain ⟨v3, ev3, hF⟩ := hF
  refine j_iald E d_c2_hasBeaten_5 ev3 ?_
  refine j_blk (pc' := 10) (lv' := [(0, .ref a0), (1, .int p1), (2, .int p2)]) (st' := [.int ((v3 >>> (p2 &&& 31)) &&& (Int32.ofInt 1))]) E b_c2_hasBeaten_6_4 rfl ?_
  refine j_if_eq (tgt := 17) E d_c2_hasBeaten_10 (by decide) (fun h4 => ?_) (fun h4 => ?_)
  · replace hF := g_t hF h4
    refine j_blk (pc' := 18) (lv' := [(0, .ref a0), (1, .int p1), (2, .int p2)]) (st' := [.int (Int32.ofInt 0)]) E b_c2_hasBeaten_17_1 rfl ?_
    have e : res = Int32.ofInt 0 := g_inj hF
    subst e
    exact j_zret E hQ nb_0 d_c2_hasBeaten_18 (fun _ h => h)
  · replace hF := g_f hF h4
    refine j_blk (pc' := 14) (lv' := [(0, .ref a0), (1, .int p1), (2, .int p2)]) (st' := [.int (Int32.ofInt 1)]) E b_c2_hasBeaten_13_1 rfl ?_
    refine j_goto (tgt := 18) E d_c2_hasBeaten_14 (by decide) ?_
    have e : res = Int32.ofInt 1 := g_inj hF
    subst e
    exact j_zret E hQ nb_1 d_c2_hasBeaten_18 (fun _ h => h)
theorem b_c2_seat_0_1 : bdec cX2_seat 0 [.aload_n 1] = true := by decide +kernel
theorem d_c2_seat_1 : decode cX2_seat 1 = .ok (.ifnull 12, 3) := by decide +kernel
theorem b_c2_seat_4_1 : bdec cX2_seat 4 [.aload_n 0] = true := by decide +kernel
theorem d_c2_seat_5 : decode cX2_seat 5 = .ok (.getfield 21, 3) := by decide +kernel
theorem b_c2_seat_8_1 : bdec cX2_seat 8 [.bipush 8] = true := by decide +kernel
theorem d_c2_seat_10 : decode cX2_seat 10 = .ok (.if_icmp .lt 4, 3) := by decide +kernel
theorem b_c2_seat_14_2 : bdec cX2_seat 14 [.iconst 0, .istore_n 2] = true := by decide +kernel
theorem b_c2_seat_16_2 : bdec cX2_seat 16 [.iload_n 2, .aload_n 0] = true := by decide +kernel
theorem d_c2_seat_18 : decode cX2_seat 18 = .ok (.getfield 21, 3) := by decide +kernel
theorem d_c2_seat_21 : decode cX2_seat 21 = .ok (.if_icmp .ge 24, 3) := by decide +kernel
theorem b_c2_seat_24_1 : bdec cX2_seat 24 [.aload_n 0] = true := by decide +kernel
theorem d_c2_seat_25 : decode cX2_seat 25 = .ok (.getfield 17, 3) := by decide +kernel
theorem b_c2_seat_28_1 : bdec cX2_seat 28 [.iload_n 2] = true := by decide +kernel
theorem b_c2_seat_29_1 : bdec cX2_seat 29 [.dup2] = true := by decide +kernel
theorem d_c2_seat_30 : decode cX2_seat 30 = .ok (.iaload, 1) := by decide +kernel
theorem b_c2_seat_31_2 : bdec cX2_seat 31 [.iconst 1, .aload_n 0] = true := by decide +kernel
theorem d_c2_seat_33 : decode cX2_seat 33 = .ok (.getfield 21, 3) := by decide +kernel
theorem b_c2_seat_36_2 : bdec cX2_seat 36 [.ishl, .ior] = true := by decide +kernel
theorem d_c2_seat_38 : decode cX2_seat 38 = .ok (.iastore, 1) := by decide +kernel
theorem b_c2_seat_39_1 : bdec cX2_seat 39 [.iinc 2 1] = true := by decide +kernel
theorem d_c2_seat_42 : decode cX2_seat 42 = .ok (.goto (-26), 3) := by decide +kernel
theorem b_c2_seat_45_1 : bdec cX2_seat 45 [.aload_n 0] = true := by decide +kernel
theorem d_c2_seat_46 : decode cX2_seat 46 = .ok (.getfield 11, 3) := by decide +kernel
theorem b_c2_seat_49_1 : bdec cX2_seat 49 [.aload_n 0] = true := by decide +kernel
theorem d_c2_seat_50 : decode cX2_seat 50 = .ok (.getfield 21, 3) := by decide +kernel
theorem b_c2_seat_53_1 : bdec cX2_seat 53 [.aload_n 1] = true := by decide +kernel
theorem d_c2_seat_54 : decode cX2_seat 54 = .ok (.aastore, 1) := by decide +kernel
theorem b_c2_seat_55_1 : bdec cX2_seat 55 [.aload_n 0] = true := by decide +kernel
theorem d_c2_seat_56 : decode cX2_seat 56 = .ok (.getfield 17, 3) := by decide +kernel
theorem b_c2_seat_59_1 : bdec cX2_seat 59 [.aload_n 0] = true := by decide +kernel
theorem d_c2_seat_60 : decode cX2_seat 60 = .ok (.getfield 21, 3) := by decide +kernel
theorem b_c2_seat_63_1 : bdec cX2_seat 63 [.iconst 0] = true := by decide +kernel
theorem d_c2_seat_64 : decode cX2_seat 64 = .ok (.iastore, 1) := by decide +kernel
theorem b_c2_seat_65_2 : bdec cX2_seat 65 [.aload_n 0, .dup] = true := by decide +kernel
theorem d_c2_seat_67 : decode cX2_seat 67 = .ok (.getfield 21, 3) := by decide +kernel
theorem b_c2_seat_70_2 : bdec cX2_seat 70 [.iconst 1, .iadd] = true := by decide +kernel
theorem d_c2_seat_72 : decode cX2_seat 72 = .ok (.putfield 21, 3) := by decide +kernel
theorem d_c2_seat_75 : decode cX2_seat 75 = .ok (.return_, 1) := by decide +kernel
theorem d_c2_seat_13 : decode cX2_seat 13 = .ok (.return_, 1) := by decide +kernel
def f2_seat_L16 (a0 : Nat) (p1 : Nat) (w : Int32 × HM) : Option ((Int32 × HM) ⊕ (HM)) := match w with
  | (x16_2, s16) => obd (hfi s16 [2] 2 a0) (fun v4 => if v4 ≤ x16_2 then (some (.inr s16)) else (obd (hfld s16 [2] 1 a0) (fun v6 => orf v6 (fun b7 => obd (hald s16 b7 x16_2) (fun v8 => obd (hfi s16 [2] 2 a0) (fun v9 => obd (hast s16 b7 x16_2 (v8 ||| ((Int32.ofInt 1) <<< (v9 &&& 31)))) (fun s10 => some (.inl (x16_2 + Int32.ofInt 1, s10)))))))))
def f2_seat (s0 : HM) (a0 : Nat) (p1 : Nat) : Option (HM) := obd (hfi s0 [2] 2 a0) (fun v1 => if v1 < ((Int8.ofInt 8).toInt32) then (obd (iter (f2_seat_L16 a0 p1) FU (Int32.ofInt 0, s0)) (fun o3 => match o3 with | t16 => obd (hfld t16 [2] 0 a0) (fun v11 => obd (hfi t16 [2] 2 a0) (fun v12 => orf v11 (fun b13 => obd (hrst t16 b13 v12 (.ref p1)) (fun s14 => obd (hfld s14 [2] 1 a0) (fun v15 => obd (hfi s14 [2] 2 a0) (fun v16 => orf v15 (fun b17 => obd (hast s14 b17 v16 (Int32.ofInt 0)) (fun s18 => obd (hfi s18 [2] 2 a0) (fun v19 => obd (hput s18 [2] 2 a0 (.int (v19 + (Int32.ofInt 1)))) (fun s20 => some s20)))))))))))) else (some s0))
set_option maxRecDepth 100000 in
set_option maxHeartbeats 4000000 in
theorem c2_seat (l : Launch) (κ : KP) (A : Nat → Prop) (s0 : HM) (a0 : Nat) (p1 : Nat) {res : HM} (hF : f2_seat s0 a0 p1 = some res) : Met l yX2_seat (Cond.code yX2_seat cX2_seat 3 none :: WT) (rmL 0 0 0) (PP κ A [.ref a0, .ref p1] (HS κ A s0)) (QQ none (HS κ A res) A) 0 0 A := by
  refine met_of (own := RX2) (by decide) rfl (Nat.le_of_ble_eq_true rfl) ?_
  intro Γ E hQ hL hR hA hent hini
  have hAA : ∀ q, A q → jA Γ q := fun q h => by rw [hA]; exact h
  have hroom : ∀ (d mL : Nat) {mc ms : Nat}, d < 0 → mL ≤ 21 → (rmL d mc ms).frames + 1 ≤ (jR Γ).frames ∧ 8 + (mL + 11) + (rmL d mc ms).locals ≤ (jR Γ).locals := fun d mL mc ms h1 h2 => by rw [hR]; exact rmL_le h1 h2
  show J Γ 3 (HS κ A s0) 0 0 0 [(0, .ref a0), (1, .ref p1)] []
  unfold f2_seat at hF
  refine j_blk (pc' := 1) (lv' := [(0, .ref a0), (1, .ref p1)]) (st' := [.ref p1]) E b_c2_seat_0_1 rfl ?_
  refine j_null_n E d_c2_seat_1 ?_
  refine j_blk (pc' := 5) (lv' := [(0, .ref a0), (1, .ref p1)]) (st' := [.ref a0]) E b_c2_seat_4_1 rfl ?_
  replace hF := obd_at hF
  obtain ⟨v1, ev1, hF⟩ := hF
  refine j_getI E fg_RX2_21 d_c2_seat_5 ev1 ?_
  refine j_blk (pc' := 10) (lv' := [(0, .ref a0), (1, .ref p1)]) (st' := [.int ((Int8.ofInt 8).toInt32), .int v1]) E b_c2_seat_8_1 rfl ?_
  refine j_icmp_lt (tgt := 14) E d_c2_seat_10 (by decide) (fun h2 => ?_) (fun h2 => ?_)
  · replace hF := g_t hF h2
    refine j_blk (pc' := 16) (lv' := [(2, .int (Int32.ofInt 0)), (0, .ref a0), (1, .ref p1)]) (st' := []) E b_c2_seat_14_2 rfl ?_
    refine j_lv [1, 2, 0] rfl ?_
    replace hF := obd_at hF
    obtain ⟨o3, ho3, hF⟩ := hF
    have lpo3 : ∀ (fu : Nat) (w : Int32 × HM) (o : HM), iter (f2_seat_L16 a0 p1) fu w = some o → (fun (o : HM) => J Γ 3 (HS κ A o) 0 0 45 [(0, .ref a0), (1, .ref p1)] []) o → (fun (w : Int32 × HM) => J Γ 3 (HS κ A w.2) 0 0 16 [(0, .ref a0), (1, .ref p1), (2, .int w.1)] []) w := by
      refine j_iter (P := fun (w : Int32 × HM) => J Γ 3 (HS κ A w.2) 0 0 16 [(0, .ref a0), (1, .ref p1), (2, .int w.1)] []) (G := fun (o : HM) => J Γ 3 (HS κ A o) 0 0 45 [(0, .ref a0), (1, .ref p1)] []) ?_
      rintro ⟨x16_2, s16⟩ q hF hI hO
      show J Γ 3 (HS κ A s16) 0 0 16 [(0, .ref a0), (1, .ref p1), (2, .int x16_2)] []
      unfold f2_seat_L16 at hF
      refine j_blk (pc' := 18) (lv' := [(0, .ref a0), (1, .ref p1), (2, .int x16_2)]) (st' := [.ref a0, .int x16_2]) E b_c2_seat_16_2 rfl ?_
      replace hF := obd_at hF
      obtain ⟨v4, ev4, hF⟩ := hF
      refine j_getI E fg_RX2_21 d_c2_seat_18 ev4 ?_
      refine j_icmp_ge (tgt := 45) E d_c2_seat_21 (by decide) (fun h5 => ?_) (fun h5 => ?_)
      · replace hF := g_t hF h5
        refine j_lv [0, 1] rfl ?_
        exact hO _ (g_inj hF)
      · replace hF := g_f hF h5
        refine j_blk (pc' := 25) (lv' := [(0, .ref a0), (1, .ref p1), (2, .int x16_2)]) (st' := [.ref a0]) E b_c2_seat_24_1 rfl ?_
        replace hF := obd_at hF
        obtain ⟨v6, ev6, hF⟩ := hF
        refine j_getf E fg_RX2_17 d_c2_seat_25 ev6 ?_
        refine j_blk (pc' := 29) (lv' := [(0, .ref a0), (1, .ref p1), (2, .int x16_2)]) (st' := [.int x16_2, v6]) E b_c2_seat_28_1 rfl ?_
        replace hF := orf_at hF
        obtain ⟨b7, rfl, hF⟩ := hF
        refine j_blk (pc' := 30) (lv' := [(0, .ref a0), (1, .ref p1), (2, .int x16_2)]) (st' := [.int x16_2, .ref b7, .int x16_2, .ref b7]) E b_c2_seat_29_1 rfl ?_
        replace hF := obd_at hF
        obtain ⟨v8, ev8, hF⟩ := hF
        refine j_iald E d_c2_seat_30 ev8 ?_
        refine j_blk (pc' := 33) (lv' := [(0, .ref a0), (1, .ref p1), (2, .int x16_2)]) (st' := [.ref a0, .int (Int32.ofInt 1), .int v8, .int x16_2, .ref b7]) E b_c2_seat_31_2 rfl ?_
        replace hF := obd_at hF
        obtain ⟨v9, ev9, hF⟩ := hF
        refine j_getI E fg_RX2_21 d_c2_seat_33 ev9 ?_
        refine j_blk (pc' := 38) (lv' := [(0, .ref a0), (1, .ref p1), (2, .int x16_2)]) (st' := [.int (v8 ||| ((Int32.ofInt 1) <<< (v9 &&& 31))), .int x16_2, .ref b7]) E b_c2_seat_36_2 rfl ?_
        replace hF := obd_at hF
        obtain ⟨s10, es10, hF⟩ := hF
        refine j_iast E d_c2_seat_38 es10 hAA ?_
        refine j_blk (pc' := 42) (lv' := [(2, .int (x16_2 + Int32.ofInt 1)), (0, .ref a0), (1, .ref p1)]) (st' := []) E b_c2_seat_39_1 rfl ?_
        refine j_goto (tgt := 16) E d_c2_seat_42 (by decide) ?_
        refine j_lv [1, 2, 0] rfl ?_
        exact hI _ (g_inj hF)
    refine lpo3 FU (Int32.ofInt 0, s0) o3 ho3 ?_
    obtain ⟨t16, rfl⟩ : ∃ z, z = o3 := ⟨_, rfl⟩
    show J Γ 3 (HS κ A t16) 0 0 45 [(0, .ref a0), (1, .ref p1)] []
    refine j_blk (pc' := 46) (lv' := [(0, .ref a0), (1, .ref p1)]) (st' := [.ref a0]) E b_c2_seat_45_1 rfl ?_
    replace hF := obd_at hF
    obtain ⟨v11, ev11, hF⟩ := hF
    refine j_getf E fg_RX2_11 d_c2_seat_46 ev11 ?_
    refine j_blk (pc' := 50) (lv' := [(0, .ref a0), (1, .ref p1)]) (st' := [.ref a0, v11]) E b_c2_seat_49_1 rfl ?_
    replace hF := obd_at hF
    obtain ⟨v12, ev12, hF⟩ := hF
    refine j_getI E fg_RX2_21 d_c2_seat_50 ev12 ?_
    refine j_blk (pc' := 54) (lv' := [(0, .ref a0), (1, .ref p1)]) (st' := [.ref p1, .int v12, v11]) E b_c2_seat_53_1 rfl ?_
    replace hF := orf_at hF
    obtain ⟨b13, rfl, hF⟩ := hF
    replace hF := obd_at hF
    obtain ⟨s14, es14, hF⟩ := hF
    refine j_rast E ra_ok d_c2_seat_54 es14 hAA ?_
    refine j_blk (pc' := 56) (lv' := [(0, .ref a0), (1, .ref p1)]) (st' := [.ref a0]) E b_c2_seat_55_1 rfl ?_
    replace hF := obd_at hF
    obtain ⟨v15, ev15, hF⟩ := hF
    refine j_getf E fg_RX2_17 d_c2_seat_56 ev15 ?_
    refine j_blk (pc' := 60) (lv' := [(0, .ref a0), (1, .ref p1)]) (st' := [.ref a0, v15]) E b_c2_seat_59_1 rfl ?_
    replace hF := obd_at hF
    obtain ⟨v16, ev16, hF⟩ := hF
    refine j_getI E fg_RX2_21 d_c2_seat_60 ev16 ?_
    refine j_blk (pc' := 64) (lv' := [(0, .ref a0), (1, .ref p1)]) (st' := [.int (Int32.ofInt 0), .int v16, v15]) E b_c2_seat_63_1 rfl ?_
    replace hF := orf_at hF
    obtain ⟨b17, rfl, hF⟩ := hF
    replace hF := obd_at hF
    obtain ⟨s18, es18, hF⟩ := hF
    refine j_iast E d_c2_seat_64 es18 hAA ?_
    refine j_blk (pc' := 67) (lv' := [(0, .ref a0), (1, .ref p1)]) (st' := [.ref a0, .ref a0]) E b_c2_seat_65_2 rfl ?_
    replace hF := obd_at hF
    obtain ⟨v19, ev19, hF⟩ := hF
    refine j_getI E fg_RX2_21 d_c2_seat_67 ev19 ?_
    refine j_blk (pc' := 72) (lv' := [(0, .ref a0), (1, .ref p1)]) (st' := [.int (v19 + (Int32.ofInt 1)), .ref a0]) E b_c2_seat_70_2 rfl ?_
    replace hF := obd_at hF
    obtain ⟨s20, es20, hF⟩ := hF
    refine j_put E fp_RX2_21 d_c2_seat_72 rfl rfl es20 hAA ?_
    have e : res = s20 := g_inj hF
    subst e
    exact j_vret E hQ d_c2_seat_75 (fun _ h => h)
  · replace hF := g_f hF h2
    have e : res = s0 := g_inj hF
    subst e
    exact j_vret E hQ d_c2_seat_13 (fun _ h => h)
theorem b_c2_win_0_1 : bdec cX2_win 0 [.aload_n 0] = true := by decide +kernel
theorem d_c2_win_1 : decode cX2_win 1 = .ok (.getfield 17, 3) := by decide +kernel
theorem b_c2_win_4_1 : bdec cX2_win 4 [.iload_n 1] = true := by decide +kernel
theorem b_c2_win_5_1 : bdec cX2_win 5 [.dup2] = true := by decide +kernel
theorem d_c2_win_6 : decode cX2_win 6 = .ok (.iaload, 1) := by decide +kernel
theorem b_c2_win_7_4 : bdec cX2_win 7 [.iconst 1, .iload_n 2, .ishl, .ior] = true := by decide +kernel
theorem d_c2_win_11 : decode cX2_win 11 = .ok (.iastore, 1) := by decide +kernel
theorem b_c2_win_12_1 : bdec cX2_win 12 [.aload_n 0] = true := by decide +kernel
theorem d_c2_win_13 : decode cX2_win 13 = .ok (.getfield 17, 3) := by decide +kernel
theorem b_c2_win_16_1 : bdec cX2_win 16 [.iload_n 2] = true := by decide +kernel
theorem b_c2_win_17_1 : bdec cX2_win 17 [.dup2] = true := by decide +kernel
theorem d_c2_win_18 : decode cX2_win 18 = .ok (.iaload, 1) := by decide +kernel
theorem b_c2_win_19_6 : bdec cX2_win 19 [.iconst 1, .iload_n 1, .ishl, .iconst (-1), .ixor, .iand] = true := by decide +kernel
theorem d_c2_win_25 : decode cX2_win 25 = .ok (.iastore, 1) := by decide +kernel
theorem d_c2_win_26 : decode cX2_win 26 = .ok (.return_, 1) := by decide +kernel
def f2_win (s0 : HM) (a0 : Nat) (p1 : Int32) (p2 : Int32) : Option (HM) := obd (hfld s0 [2] 1 a0) (fun v1 => orf v1 (fun b2 => obd (hald s0 b2 p1) (fun v3 => obd (hast s0 b2 p1 (v3 ||| ((Int32.ofInt 1) <<< (p2 &&& 31)))) (fun s4 => obd (hfld s4 [2] 1 a0) (fun v5 => orf v5 (fun b6 => obd (hald s4 b6 p2) (fun v7 => obd (hast s4 b6 p2 (v7 &&& (((Int32.ofInt 1) <<< (p1 &&& 31)) ^^^ (Int32.ofInt (-1))))) (fun s8 => some s8))))))))
set_option maxRecDepth 100000 in
set_option maxHeartbeats 4000000 in
theorem c2_win (l : Launch) (κ : KP) (A : Nat → Prop) (s0 : HM) (a0 : Nat) (p1 : Int32) (p2 : Int32) {res : HM} (hF : f2_win s0 a0 p1 p2 = some res) : Met l yX2_win (Cond.code yX2_win cX2_win 3 none :: WT) (rmL 0 0 0) (PP κ A [.ref a0, .int p1, .int p2] (HS κ A s0)) (QQ none (HS κ A res) A) 0 0 A := by
  refine met_of (own := RX2) (by decide) rfl (Nat.le_of_ble_eq_true rfl) ?_
  intro Γ E hQ hL hR hA hent hini
  have hAA : ∀ q, A q → jA Γ q := fun q h => by rw [hA]; exact h
  have hroom : ∀ (d mL : Nat) {mc ms : Nat}, d < 0 → mL ≤ 21 → (rmL d mc ms).frames + 1 ≤ (jR Γ).frames ∧ 8 + (mL + 11) + (rmL d mc ms).locals ≤ (jR Γ).locals := fun d mL mc ms h1 h2 => by rw [hR]; exact rmL_le h1 h2
  show J Γ 3 (HS κ A s0) 0 0 0 [(0, .ref a0), (1, .int p1), (2, .int p2)] []
  unfold f2_win at hF
  refine j_blk (pc' := 1) (lv' := [(0, .ref a0), (1, .int p1), (2, .int p2)]) (st' := [.ref a0]) E b_c2_win_0_1 rfl ?_
  replace hF := obd_at hF
  obtain ⟨v1, ev1, hF⟩ := hF
  refine j_getf E fg_RX2_17 d_c2_win_1 ev1 ?_
  refine j_blk (pc' := 5) (lv' := [(0, .ref a0), (1, .int p1), (2, .int p2)]) (st' := [.int p1, v1]) E b_c2_win_4_1 rfl ?_
  replace hF := orf_at hF
  obtain ⟨b2, rfl, hF⟩ := hF
  refine j_blk (pc' := 6) (lv' := [(0, .ref a0), (1, .int p1), (2, .int p2)]) (st' := [.int p1, .ref b2, .int p1, .ref b2]) E b_c2_win_5_1 rfl ?_
  replace hF := obd_at hF
  obtain ⟨v3, ev3, hF⟩ := hF
  refine j_iald E d_c2_win_6 ev3 ?_
  refine j_blk (pc' := 11) (lv' := [(0, .ref a0), (1, .int p1), (2, .int p2)]) (st' := [.int (v3 ||| ((Int32.ofInt 1) <<< (p2 &&& 31))), .int p1, .ref b2]) E b_c2_win_7_4 rfl ?_
  replace hF := obd_at hF
  obtain ⟨s4, es4, hF⟩ := hF
  refine j_iast E d_c2_win_11 es4 hAA ?_
  refine j_blk (pc' := 13) (lv' := [(0, .ref a0), (1, .int p1), (2, .int p2)]) (st' := [.ref a0]) E b_c2_win_12_1 rfl ?_
  replace hF := obd_at hF
  obtain ⟨v5, ev5, hF⟩ := hF
  refine j_getf E fg_RX2_17 d_c2_win_13 ev5 ?_
  refine j_blk (pc' := 17) (lv' := [(0, .ref a0), (1, .int p1), (2, .int p2)]) (st' := [.int p2, v5]) E b_c2_win_16_1 rfl ?_
  replace hF := orf_at hF
  obtain ⟨b6, rfl, hF⟩ := hF
  refine j_blk (pc' := 18) (lv' := [(0, .ref a0), (1, .int p1), (2, .int p2)]) (st' := [.int p2, .ref b6, .int p2, .ref b6]) E b_c2_win_17_1 rfl ?_
  replace hF := obd_at hF
  obtain ⟨v7, ev7, hF⟩ := hF
  refine j_iald E d_c2_win_18 ev7 ?_
  refine j_blk (pc' := 25) (lv' := [(0, .ref a0), (1, .int p1), (2, .int p2)]) (st' := [.int (v7 &&& (((Int32.ofInt 1) <<< (p1 &&& 31)) ^^^ (Int32.ofInt (-1)))), .int p2, .ref b6]) E b_c2_win_19_6 rfl ?_
  replace hF := obd_at hF
  obtain ⟨s8, es8, hF⟩ := hF
  refine j_iast E d_c2_win_25 es8 hAA ?_
  have e : res = s8 := g_inj hF
  subst e
  exact j_vret E hQ d_c2_win_26 (fun _ h => h)
theorem b_c2_matches_0_1 : bdec cX2_matches 0 [.aload_n 0] = true := by decide +kernel
theorem d_c2_matches_1 : decode cX2_matches 1 = .ok (.getfield 21, 3) := by decide +kernel
theorem b_c2_matches_4_1 : bdec cX2_matches 4 [.aload_n 0] = true := by decide +kernel
theorem d_c2_matches_5 : decode cX2_matches 5 = .ok (.getfield 21, 3) := by decide +kernel
theorem b_c2_matches_8_4 : bdec cX2_matches 8 [.iconst 1, .isub, .imul, .iconst 2] = true := by decide +kernel
theorem d_c2_matches_12 : decode cX2_matches 12 = .ok (.idiv, 1) := by decide +kernel
theorem d_c2_matches_13 : decode cX2_matches 13 = .ok (.ireturn, 1) := by decide +kernel
def f2_matches (s0 : HM) (a0 : Nat) : Option (Int32) := obd (hfi s0 [2] 2 a0) (fun v1 => obd (hfi s0 [2] 2 a0) (fun v2 => onz (Int32.ofInt 2) (some ((v1 * (v2 - (Int32.ofInt 1))) / (Int32.ofInt 2)))))
set_option maxRecDepth 100000 in
set_option maxHeartbeats 4000000 in
theorem c2_matches (l : Launch) (κ : KP) (A : Nat → Prop) (s0 : HM) (a0 : Nat) {res : Int32} (hF : f2_matches s0 a0 = some res) : Met l yX2_matches (Cond.code yX2_matches cX2_matches 1 (some .int) :: WT) (rmL 0 0 0) (PP κ A [.ref a0] (HS κ A s0)) (QQ (some (.int res)) (HS κ A s0) A) 0 0 A := by
  refine met_of (own := RX2) (by decide) rfl (Nat.le_of_ble_eq_true rfl) ?_
  intro Γ E hQ hL hR hA hent hini
  have hAA : ∀ q, A q → jA Γ q := fun q h => by rw [hA]; exact h
  have hroom : ∀ (d mL : Nat) {mc ms : Nat}, d < 0 → mL ≤ 21 → (rmL d mc ms).frames + 1 ≤ (jR Γ).frames ∧ 8 + (mL + 11) + (rmL d mc ms).locals ≤ (jR Γ).locals := fun d mL mc ms h1 h2 => by rw [hR]; exact rmL_le h1 h2
  show J Γ 1 (HS κ A s0) 0 0 0 [(0, .ref a0)] []
  unfold f2_matches at hF
  refine j_blk (pc' := 1) (lv' := [(0, .ref a0)]) (st' := [.ref a0]) E b_c2_matches_0_1 rfl ?_
  replace hF := obd_at hF
  obtain ⟨v1, ev1, hF⟩ := hF
  refine j_getI E fg_RX2_21 d_c2_matches_1 ev1 ?_
  refine j_blk (pc' := 5) (lv' := [(0, .ref a0)]) (st' := [.ref a0, .int v1]) E b_c2_matches_4_1 rfl ?_
  replace hF := obd_at hF
  obtain ⟨v2, ev2, hF⟩ := hF
  refine j_getI E fg_RX2_21 d_c2_matches_5 ev2 ?_
  refine j_blk (pc' := 12) (lv' := [(0, .ref a0)]) (st' := [.int (Int32.ofInt 2), .int (v1 * (v2 - (Int32.ofInt 1)))]) E b_c2_matches_8_4 rfl ?_
  replace hF := onz_at hF
  obtain ⟨h0, hF⟩ := hF
  refine j_idiv E d_c2_matches_12 h0 ?_
  have e : res = (v1 * (v2 - (Int32.ofInt 1))) / (Int32.ofInt 2) := g_inj hF
  subst e
  exact j_iret E hQ d_c2_matches_13 (fun _ h => h)
theorem b_c2_turn_0_1 : bdec cX2_turn 0 [.aload_n 0] = true := by decide +kernel
theorem d_c2_turn_1 : decode cX2_turn 1 = .ok (.getfield 17, 3) := by decide +kernel
theorem d_c2_turn_4 : decode cX2_turn 4 = .ok (.getstatic 32, 3) := by decide +kernel
theorem b_c2_turn_7_1 : bdec cX2_turn 7 [.iload_n 1] = true := by decide +kernel
theorem d_c2_turn_8 : decode cX2_turn 8 = .ok (.iaload, 1) := by decide +kernel
theorem b_c2_turn_9_1 : bdec cX2_turn 9 [.dup2] = true := by decide +kernel
theorem d_c2_turn_10 : decode cX2_turn 10 = .ok (.iaload, 1) := by decide +kernel
theorem b_c2_turn_11_1 : bdec cX2_turn 11 [.iconst 1] = true := by decide +kernel
theorem d_c2_turn_12 : decode cX2_turn 12 = .ok (.getstatic 35, 3) := by decide +kernel
theorem b_c2_turn_15_1 : bdec cX2_turn 15 [.iload_n 1] = true := by decide +kernel
theorem d_c2_turn_16 : decode cX2_turn 16 = .ok (.iaload, 1) := by decide +kernel
theorem b_c2_turn_17_2 : bdec cX2_turn 17 [.ishl, .ixor] = true := by decide +kernel
theorem d_c2_turn_19 : decode cX2_turn 19 = .ok (.iastore, 1) := by decide +kernel
theorem b_c2_turn_20_1 : bdec cX2_turn 20 [.aload_n 0] = true := by decide +kernel
theorem d_c2_turn_21 : decode cX2_turn 21 = .ok (.getfield 17, 3) := by decide +kernel
theorem d_c2_turn_24 : decode cX2_turn 24 = .ok (.getstatic 35, 3) := by decide +kernel
theorem b_c2_turn_27_1 : bdec cX2_turn 27 [.iload_n 1] = true := by decide +kernel
theorem d_c2_turn_28 : decode cX2_turn 28 = .ok (.iaload, 1) := by decide +kernel
theorem b_c2_turn_29_1 : bdec cX2_turn 29 [.dup2] = true := by decide +kernel
theorem d_c2_turn_30 : decode cX2_turn 30 = .ok (.iaload, 1) := by decide +kernel
theorem b_c2_turn_31_1 : bdec cX2_turn 31 [.iconst 1] = true := by decide +kernel
theorem d_c2_turn_32 : decode cX2_turn 32 = .ok (.getstatic 32, 3) := by decide +kernel
theorem b_c2_turn_35_1 : bdec cX2_turn 35 [.iload_n 1] = true := by decide +kernel
theorem d_c2_turn_36 : decode cX2_turn 36 = .ok (.iaload, 1) := by decide +kernel
theorem b_c2_turn_37_2 : bdec cX2_turn 37 [.ishl, .ixor] = true := by decide +kernel
theorem d_c2_turn_39 : decode cX2_turn 39 = .ok (.iastore, 1) := by decide +kernel
theorem d_c2_turn_40 : decode cX2_turn 40 = .ok (.return_, 1) := by decide +kernel
def f2_turn (s0 : HM) (a0 : Nat) (p1 : Int32) : Option (HM) := obd (hfld s0 [2] 1 a0) (fun v1 => ogd (inb p1 28) (orf v1 (fun b2 => obd (hald s0 b2 (tbL p1.toNatClampNeg)) (fun v3 => ogd (inb p1 28) (obd (hast s0 b2 (tbL p1.toNatClampNeg) (v3 ^^^ ((Int32.ofInt 1) <<< ((tbG p1.toNatClampNeg) &&& 31)))) (fun s4 => obd (hfld s4 [2] 1 a0) (fun v5 => ogd (inb p1 28) (orf v5 (fun b6 => obd (hald s4 b6 (tbG p1.toNatClampNeg)) (fun v7 => ogd (inb p1 28) (obd (hast s4 b6 (tbG p1.toNatClampNeg) (v7 ^^^ ((Int32.ofInt 1) <<< ((tbL p1.toNatClampNeg) &&& 31)))) (fun s8 => some s8))))))))))))
set_option maxRecDepth 100000 in
set_option maxHeartbeats 4000000 in
theorem c2_turn (l : Launch) (κ : KP) (A : Nat → Prop) (s0 : HM) (a0 : Nat) (p1 : Int32) {res : HM} (hF : f2_turn s0 a0 p1 = some res) : Met l yX2_turn (Cond.code yX2_turn cX2_turn 2 none :: WT) (rmL 0 0 0) (PP κ A [.ref a0, .int p1] (HS κ A s0)) (QQ none (HS κ A res) A) 0 0 A := by
  refine met_of (own := RX2) (by decide) rfl (Nat.le_of_ble_eq_true rfl) ?_
  intro Γ E hQ hL hR hA hent hini
  have hAA : ∀ q, A q → jA Γ q := fun q h => by rw [hA]; exact h
  have hroom : ∀ (d mL : Nat) {mc ms : Nat}, d < 0 → mL ≤ 21 → (rmL d mc ms).frames + 1 ≤ (jR Γ).frames ∧ 8 + (mL + 11) + (rmL d mc ms).locals ≤ (jR Γ).locals := fun d mL mc ms h1 h2 => by rw [hR]; exact rmL_le h1 h2
  show J Γ 2 (HS κ A s0) 0 0 0 [(0, .ref a0), (1, .int p1)] []
  unfold f2_turn at hF
  refine j_blk (pc' := 1) (lv' := [(0, .ref a0), (1, .int p1)]) (st' := [.ref a0]) E b_c2_turn_0_1 rfl ?_
  replace hF := obd_at hF
  obtain ⟨v1, ev1, hF⟩ := hF
  refine j_getf E fg_RX2_17 d_c2_turn_1 ev1 ?_
  refine j_getsN E (kx_L E) n_469 d_c2_turn_4 ?_
  refine j_blk (pc' := 8) (lv' := [(0, .ref a0), (1, .int p1)]) (st' := [.int p1, .ref (kL κ), v1]) E b_c2_turn_7_1 rfl ?_
  replace hF := ogd_at hF
  obtain ⟨hi, hF⟩ := hF
  refine j_tld E (kx_TL E) d_c2_turn_8 hi ?_
  replace hF := orf_at hF
  obtain ⟨b2, rfl, hF⟩ := hF
  refine j_blk (pc' := 10) (lv' := [(0, .ref a0), (1, .int p1)]) (st' := [.int (tbL p1.toNatClampNeg), .ref b2, .int (tbL p1.toNatClampNeg), .ref b2]) E b_c2_turn_9_1 rfl ?_
  replace hF := obd_at hF
  obtain ⟨v3, ev3, hF⟩ := hF
  refine j_iald E d_c2_turn_10 ev3 ?_
  refine j_blk (pc' := 12) (lv' := [(0, .ref a0), (1, .int p1)]) (st' := [.int (Int32.ofInt 1), .int v3, .int (tbL p1.toNatClampNeg), .ref b2]) E b_c2_turn_11_1 rfl ?_
  refine j_getsN E (kx_G E) n_471 d_c2_turn_12 ?_
  refine j_blk (pc' := 16) (lv' := [(0, .ref a0), (1, .int p1)]) (st' := [.int p1, .ref (kG κ), .int (Int32.ofInt 1), .int v3, .int (tbL p1.toNatClampNeg), .ref b2]) E b_c2_turn_15_1 rfl ?_
  replace hF := ogd_at hF
  obtain ⟨hi, hF⟩ := hF
  refine j_tld E (kx_TG E) d_c2_turn_16 hi ?_
  refine j_blk (pc' := 19) (lv' := [(0, .ref a0), (1, .int p1)]) (st' := [.int (v3 ^^^ ((Int32.ofInt 1) <<< ((tbG p1.toNatClampNeg) &&& 31))), .int (tbL p1.toNatClampNeg), .ref b2]) E b_c2_turn_17_2 rfl ?_
  replace hF := obd_at hF
  obtain ⟨s4, es4, hF⟩ := hF
  refine j_iast E d_c2_turn_19 es4 hAA ?_
  refine j_blk (pc' := 21) (lv' := [(0, .ref a0), (1, .int p1)]) (st' := [.ref a0]) E b_c2_turn_20_1 rfl ?_
  replace hF := obd_at hF
  obtain ⟨v5, ev5, hF⟩ := hF
  refine j_getf E fg_RX2_17 d_c2_turn_21 ev5 ?_
  refine j_getsN E (kx_G E) n_471 d_c2_turn_24 ?_
  refine j_blk (pc' := 28) (lv' := [(0, .ref a0), (1, .int p1)]) (st' := [.int p1, .ref (kG κ), v5]) E b_c2_turn_27_1 rfl ?_
  replace hF := ogd_at hF
  obtain ⟨hi, hF⟩ := hF
  refine j_tld E (kx_TG E) d_c2_turn_28 hi ?_
  replace hF := orf_at hF
  obtain ⟨b6, rfl, hF⟩ := hF
  refine j_blk (pc' := 30) (lv' := [(0, .ref a0), (1, .int p1)]) (st' := [.int (tbG p1.toNatClampNeg), .ref b6, .int (tbG p1.toNatClampNeg), .ref b6]) E b_c2_turn_29_1 rfl ?_
  replace hF := obd_at hF
  obtain ⟨v7, ev7, hF⟩ := hF
  refine j_iald E d_c2_turn_30 ev7 ?_
  refine j_blk (pc' := 32) (lv' := [(0, .ref a0), (1, .int p1)]) (st' := [.int (Int32.ofInt 1), .int v7, .int (tbG p1.toNatClampNeg), .ref b6]) E b_c2_turn_31_1 rfl ?_
  refine j_getsN E (kx_L E) n_469 d_c2_turn_32 ?_
  refine j_blk (pc' := 36) (lv' := [(0, .ref a0), (1, .int p1)]) (st' := [.int p1, .ref (kL κ), .int (Int32.ofInt 1), .int v7, .int (tbG p1.toNatClampNeg), .ref b6]) E b_c2_turn_35_1 rfl ?_
  replace hF := ogd_at hF
  obtain ⟨hi, hF⟩ := hF
  refine j_tld E (kx_TL E) d_c2_turn_36 hi ?_
  refine j_blk (pc' := 39) (lv' := [(0, .ref a0), (1, .int p1)]) (st' := [.int (v7 ^^^ ((Int32.ofInt 1) <<< ((tbL p1.toNatClampNeg) &&& 31))), .int (tbG p1.toNatClampNeg), .ref b6]) E b_c2_turn_37_2 rfl ?_
  replace hF := obd_at hF
  obtain ⟨s8, es8, hF⟩ := hF
  refine j_iast E d_c2_turn_39 es8 hAA ?_
  have e : res = s8 := g_inj hF
  subst e
  exact j_vret E hQ d_c2_turn_40 (fun _ h => h)
theorem b_c2_drawBelow_0_1 : bdec cX2_drawBelow 0 [.iload_n 0] = true := by decide +kernel
theorem d_c2_drawBelow_1 : decode cX2_drawBelow 1 = .ok (.ifCond .le 15, 3) := by decide +kernel
theorem b_c2_drawBelow_16_1 : bdec cX2_drawBelow 16 [.iconst 0] = true := by decide +kernel
theorem d_c2_drawBelow_17 : decode cX2_drawBelow 17 = .ok (.ireturn, 1) := by decide +kernel
theorem b_c2_drawBelow_4_1 : bdec cX2_drawBelow 4 [.iload_n 1] = true := by decide +kernel
theorem d_c2_drawBelow_5 : decode cX2_drawBelow 5 = .ok (.ldc 61, 2) := by decide +kernel
theorem b_c2_drawBelow_7_4 : bdec cX2_drawBelow 7 [.iand, .bipush 16, .ishr, .iload_n 0] = true := by decide +kernel
theorem d_c2_drawBelow_12 : decode cX2_drawBelow 12 = .ok (.irem, 1) := by decide +kernel
theorem d_c2_drawBelow_13 : decode cX2_drawBelow 13 = .ok (.goto 4, 3) := by decide +kernel
def f2_drawBelow (p0 : Int32) (p1 : Int32) : Option (Int32) := if p0 ≤ 0 then (some (Int32.ofInt 0)) else (onz p0 (some (((p1 &&& 2147483647) >>> (((Int8.ofInt 16).toInt32) &&& 31)) - ((p1 &&& 2147483647) >>> (((Int8.ofInt 16).toInt32) &&& 31)) / p0 * p0)))
set_option maxRecDepth 100000 in
set_option maxHeartbeats 4000000 in
theorem c2_drawBelow (l : Launch) (κ : KP) (A : Nat → Prop) (HP : Heap → Prop) (p0 : Int32) (p1 : Int32) {res : Int32} (hF : f2_drawBelow p0 p1 = some res) : Met l yX2_drawBelow (Cond.code yX2_drawBelow cX2_drawBelow 2 (some .int) :: WT) (rmL 0 0 0) (PP κ A [.int p0, .int p1] HP) (QQ (some (.int res)) HP A) 0 0 A := by
  refine met_of (own := RX2) (by decide) rfl (Nat.le_of_ble_eq_true rfl) ?_
  intro Γ E hQ hL hR hA hent hini
  have hAA : ∀ q, A q → jA Γ q := fun q h => by rw [hA]; exact h
  have hroom : ∀ (d mL : Nat) {mc ms : Nat}, d < 0 → mL ≤ 21 → (rmL d mc ms).frames + 1 ≤ (jR Γ).frames ∧ 8 + (mL + 11) + (rmL d mc ms).locals ≤ (jR Γ).locals := fun d mL mc ms h1 h2 => by rw [hR]; exact rmL_le h1 h2
  show J Γ 2 HP 0 0 0 [(0, .int p0), (1, .int p1)] []
  unfold f2_drawBelow at hF
  refine j_blk (pc' := 1) (lv' := [(0, .int p0), (1, .int p1)]) (st' := [.int p0]) E b_c2_drawBelow_0_1 rfl ?_
  refine j_if_le (tgt := 16) E d_c2_drawBelow_1 (by decide) (fun h1 => ?_) (fun h1 => ?_)
  · replace hF := g_t hF h1
    refine j_blk (pc' := 17) (lv' := [(0, .int p0), (1, .int p1)]) (st' := [.int (Int32.ofInt 0)]) E b_c2_drawBelow_16_1 rfl ?_
    have e : res = Int32.ofInt 0 := g_inj hF
    subst e
    exact j_iret E hQ d_c2_drawBelow_17 (fun _ h => h)
  · replace hF := g_f hF h1
    refine j_blk (pc' := 5) (lv' := [(0, .int p0), (1, .int p1)]) (st' := [.int p1]) E b_c2_drawBelow_4_1 rfl ?_
    refine j_ldc (x := 2147483647) E d_c2_drawBelow_5 m_591 ?_
    refine j_blk (pc' := 12) (lv' := [(0, .int p0), (1, .int p1)]) (st' := [.int p0, .int ((p1 &&& 2147483647) >>> (((Int8.ofInt 16).toInt32) &&& 31))]) E b_c2_drawBelow_7_4 rfl ?_
    replace hF := onz_at hF
    obtain ⟨h0, hF⟩ := hF
    refine j_irem E d_c2_drawBelow_12 h0 ?_
    refine j_goto (tgt := 17) E d_c2_drawBelow_13 (by decide) ?_
    have e : res = ((p1 &&& 2147483647) >>> (((Int8.ofInt 16).toInt32) &&& 31)) - ((p1 &&& 2147483647) >>> (((Int8.ofInt 16).toInt32) &&& 31)) / p0 * p0 := g_inj hF
    subst e
    exact j_iret E hQ d_c2_drawBelow_17 (fun _ h => h)
theorem b_c2_isAsTold_0_2 : bdec cX2_isAsTold 0 [.iconst 0, .istore_n 2] = true := by decide +kernel
theorem b_c2_isAsTold_2_2 : bdec cX2_isAsTold 2 [.iload_n 2, .aload_n 0] = true := by decide +kernel
theorem d_c2_isAsTold_4 : decode cX2_isAsTold 4 = .ok (.getfield 21, 3) := by decide +kernel
theorem d_c2_isAsTold_7 : decode cX2_isAsTold 7 = .ok (.if_icmp .ge 26, 3) := by decide +kernel
theorem b_c2_isAsTold_10_2 : bdec cX2_isAsTold 10 [.aload_n 1, .iload_n 2] = true := by decide +kernel
theorem d_c2_isAsTold_12 : decode cX2_isAsTold 12 = .ok (.iaload, 1) := by decide +kernel
theorem b_c2_isAsTold_13_1 : bdec cX2_isAsTold 13 [.aload_n 0] = true := by decide +kernel
theorem d_c2_isAsTold_14 : decode cX2_isAsTold 14 = .ok (.getfield 17, 3) := by decide +kernel
theorem b_c2_isAsTold_17_1 : bdec cX2_isAsTold 17 [.iload_n 2] = true := by decide +kernel
theorem d_c2_isAsTold_18 : decode cX2_isAsTold 18 = .ok (.iaload, 1) := by decide +kernel
theorem b_c2_isAsTold_19_3 : bdec cX2_isAsTold 19 [.iconst (-1), .ixor, .iand] = true := by decide +kernel
theorem d_c2_isAsTold_22 : decode cX2_isAsTold 22 = .ok (.ifCond .eq 5, 3) := by decide +kernel
theorem b_c2_isAsTold_27_1 : bdec cX2_isAsTold 27 [.iinc 2 1] = true := by decide +kernel
theorem d_c2_isAsTold_30 : decode cX2_isAsTold 30 = .ok (.goto (-28), 3) := by decide +kernel
theorem b_c2_isAsTold_25_1 : bdec cX2_isAsTold 25 [.iconst 0] = true := by decide +kernel
theorem d_c2_isAsTold_26 : decode cX2_isAsTold 26 = .ok (.ireturn, 1) := by decide +kernel
theorem b_c2_isAsTold_33_1 : bdec cX2_isAsTold 33 [.iconst 1] = true := by decide +kernel
theorem d_c2_isAsTold_34 : decode cX2_isAsTold 34 = .ok (.ireturn, 1) := by decide +kernel
def f2_isAsTold_L2 (s0 : HM) (a0 : Nat) (p1 : Nat) (w : Int32) : Option ((Int32) ⊕ ((Int32) ⊕ (Unit))) := match w with
  | x2_2 => obd (hfi s0 [2] 2 a0) (fun v2 => if v2 ≤ x2_2 then (some (.inr (.inr ()))) else (obd (hald s0 p1 x2_2) (fun v4 => obd (hfld s0 [2] 1 a0) (fun v5 => orf v5 (fun b6 => obd (hald s0 b6 x2_2) (fun v7 => if (v4 &&& (v7 ^^^ (Int32.ofInt (-1)))) = 0 then (some (.inl (x2_2 + Int32.ofInt 1))) else (some (.inr (.inl (Int32.ofInt 0))))))))))
def f2_isAsTold (s0 : HM) (a0 : Nat) (p1 : Nat) : Option (Int32) := obd (iter (f2_isAsTold_L2 s0 a0 p1) FU (Int32.ofInt 0)) (fun o1 => osm o1 (fun o1 => some o1) (fun o1 => some (Int32.ofInt 1)))
set_option maxRecDepth 100000 in
set_option maxHeartbeats 4000000 in
theorem c2_isAsTold (l : Launch) (κ : KP) (A : Nat → Prop) (s0 : HM) (a0 : Nat) (p1 : Nat) {res : Int32} (hF : f2_isAsTold s0 a0 p1 = some res) : Met l yX2_isAsTold (Cond.code yX2_isAsTold cX2_isAsTold 3 (some .boolean) :: WT) (rmL 0 0 0) (PP κ A [.ref a0, .ref p1] (HS κ A s0)) (QQ (some (.int res)) (HS κ A s0) A) 0 0 A := by
  refine met_of (own := RX2) (by decide) rfl (Nat.le_of_ble_eq_true rfl) ?_
  intro Γ E hQ hL hR hA hent hini
  have hAA : ∀ q, A q → jA Γ q := fun q h => by rw [hA]; exact h
  have hroom : ∀ (d mL : Nat) {mc ms : Nat}, d < 0 → mL ≤ 21 → (rmL d mc ms).frames + 1 ≤ (jR Γ).frames ∧ 8 + (mL + 11) + (rmL d mc ms).locals ≤ (jR Γ).locals := fun d mL mc ms h1 h2 => by rw [hR]; exact rmL_le h1 h2
  show J Γ 3 (HS κ A s0) 0 0 0 [(0, .ref a0), (1, .ref p1)] []
  unfold f2_isAsTold at hF
  refine j_blk (pc' := 2) (lv' := [(2, .int (Int32.ofInt 0)), (0, .ref a0), (1, .ref p1)]) (st' := []) E b_c2_isAsTold_0_2 rfl ?_
  refine j_lv [1, 2, 0] rfl ?_
  replace hF := obd_at hF
  obtain ⟨o1, ho1, hF⟩ := hF
  have lpo1 : ∀ (fu : Nat) (w : Int32) (o : (Int32) ⊕ (Unit)), iter (f2_isAsTold_L2 s0 a0 p1) fu w = some o → (fun (o : (Int32) ⊕ (Unit)) => match o with | .inl r => r = res | .inr o => J Γ 3 (HS κ A s0) 0 0 33 [] []) o → (fun (w : Int32) => J Γ 3 (HS κ A s0) 0 0 2 [(0, .ref a0), (1, .ref p1), (2, .int w)] []) w := by
    refine j_iter (P := fun (w : Int32) => J Γ 3 (HS κ A s0) 0 0 2 [(0, .ref a0), (1, .ref p1), (2, .int w)] []) (G := fun (o : (Int32) ⊕ (Unit)) => match o with | .inl r => r = res | .inr o => J Γ 3 (HS κ A s0) 0 0 33 [] []) ?_
    intro x2_2 q hF hI hO
    show J Γ 3 (HS κ A s0) 0 0 2 [(0, .ref a0), (1, .ref p1), (2, .int x2_2)] []
    unfold f2_isAsTold_L2 at hF
    refine j_blk (pc' := 4) (lv' := [(0, .ref a0), (1, .ref p1), (2, .int x2_2)]) (st' := [.ref a0, .int x2_2]) E b_c2_isAsTold_2_2 rfl ?_
    replace hF := obd_at hF
    obtain ⟨v2, ev2, hF⟩ := hF
    refine j_getI E fg_RX2_21 d_c2_isAsTold_4 ev2 ?_
    refine j_icmp_ge (tgt := 33) E d_c2_isAsTold_7 (by decide) (fun h3 => ?_) (fun h3 => ?_)
    · replace hF := g_t hF h3
      refine j_lv [] rfl ?_
      exact hO _ (g_inj hF)
    · replace hF := g_f hF h3
      refine j_blk (pc' := 12) (lv' := [(0, .ref a0), (1, .ref p1), (2, .int x2_2)]) (st' := [.int x2_2, .ref p1]) E b_c2_isAsTold_10_2 rfl ?_
      replace hF := obd_at hF
      obtain ⟨v4, ev4, hF⟩ := hF
      refine j_iald E d_c2_isAsTold_12 ev4 ?_
      refine j_blk (pc' := 14) (lv' := [(0, .ref a0), (1, .ref p1), (2, .int x2_2)]) (st' := [.ref a0, .int v4]) E b_c2_isAsTold_13_1 rfl ?_
      replace hF := obd_at hF
      obtain ⟨v5, ev5, hF⟩ := hF
      refine j_getf E fg_RX2_17 d_c2_isAsTold_14 ev5 ?_
      refine j_blk (pc' := 18) (lv' := [(0, .ref a0), (1, .ref p1), (2, .int x2_2)]) (st' := [.int x2_2, v5, .int v4]) E b_c2_isAsTold_17_1 rfl ?_
      replace hF := orf_at hF
      obtain ⟨b6, rfl, hF⟩ := hF
      replace hF := obd_at hF
      obtain ⟨v7, ev7, hF⟩ := hF
      refine j_iald E d_c2_isAsTold_18 ev7 ?_
      refine j_blk (pc' := 22) (lv' := [(0, .ref a0), (1, .ref p1), (2, .int x2_2)]) (st' := [.int (v4 &&& (v7 ^^^ (Int32.ofInt (-1))))]) E b_c2_isAsTold_19_3 rfl ?_
      refine j_if_eq (tgt := 27) E d_c2_isAsTold_22 (by decide) (fun h8 => ?_) (fun h8 => ?_)
      · replace hF := g_t hF h8
        refine j_blk (pc' := 30) (lv' := [(2, .int (x2_2 + Int32.ofInt 1)), (0, .ref a0), (1, .ref p1)]) (st' := []) E b_c2_isAsTold_27_1 rfl ?_
        refine j_goto (tgt := 2) E d_c2_isAsTold_30 (by decide) ?_
        refine j_lv [1, 2, 0] rfl ?_
        exact hI _ (g_inj hF)
      · replace hF := g_f hF h8
        refine j_blk (pc' := 26) (lv' := [(0, .ref a0), (1, .ref p1), (2, .int x2_2)]) (st' := [.int (Int32.ofInt 0)]) E b_c2_isAsTold_25_1 rfl ?_
        have e : Int32.ofInt 0 = res := hO _ (g_inj hF)
        subst e
        exact j_zret E hQ nb_0 d_c2_isAsTold_26 (fun _ h => h)
  refine lpo1 FU (Int32.ofInt 0) o1 ho1 ?_
  rcases o1 with o1 | o1
  · exact (g_inj hF).symm
  · skip
    show J Γ 3 (HS κ A s0) 0 0 33 [] []
    refine j_blk (pc' := 34) (lv' := []) (st' := [.int (Int32.ofInt 1)]) E b_c2_isAsTold_33_1 rfl ?_
    have e : res = Int32.ofInt 1 := g_inj hF
    subst e
    exact j_zret E hQ nb_1 d_c2_isAsTold_34 (fun _ h => h)
theorem b_c2_mastersAmong_0_2 : bdec cX2_mastersAmong 0 [.iload_n 1, .aload_n 0] = true := by decide +kernel
theorem d_c2_mastersAmong_2 : decode cX2_mastersAmong 2 = .ok (.getfield 17, 3) := by decide +kernel
theorem b_c2_mastersAmong_5_1 : bdec cX2_mastersAmong 5 [.iload_n 2] = true := by decide +kernel
theorem d_c2_mastersAmong_6 : decode cX2_mastersAmong 6 = .ok (.iaload, 1) := by decide +kernel
theorem b_c2_mastersAmong_7_1 : bdec cX2_mastersAmong 7 [.aload_n 0] = true := by decide +kernel
theorem d_c2_mastersAmong_8 : decode cX2_mastersAmong 8 = .ok (.getfield 17, 3) := by decide +kernel
theorem b_c2_mastersAmong_11_1 : bdec cX2_mastersAmong 11 [.iload_n 3] = true := by decide +kernel
theorem d_c2_mastersAmong_12 : decode cX2_mastersAmong 12 = .ok (.iaload, 1) := by decide +kernel
theorem b_c2_mastersAmong_13_12 : bdec cX2_mastersAmong 13 [.ior, .iconst 1, .iload_n 2, .ishl, .ior, .iconst 1, .iload_n 3, .ishl, .ior, .iconst (-1), .ixor, .iand] = true := by decide +kernel
theorem d_c2_mastersAmong_25 : decode cX2_mastersAmong 25 = .ok (.ireturn, 1) := by decide +kernel
def f2_mastersAmong (s0 : HM) (a0 : Nat) (p1 : Int32) (p2 : Int32) (p3 : Int32) : Option (Int32) := obd (hfld s0 [2] 1 a0) (fun v1 => orf v1 (fun b2 => obd (hald s0 b2 p2) (fun v3 => obd (hfld s0 [2] 1 a0) (fun v4 => orf v4 (fun b5 => obd (hald s0 b5 p3) (fun v6 => some (p1 &&& ((((v3 ||| v6) ||| ((Int32.ofInt 1) <<< (p2 &&& 31))) ||| ((Int32.ofInt 1) <<< (p3 &&& 31))) ^^^ (Int32.ofInt (-1))))))))))
set_option maxRecDepth 100000 in
set_option maxHeartbeats 4000000 in
theorem c2_mastersAmong (l : Launch) (κ : KP) (A : Nat → Prop) (s0 : HM) (a0 : Nat) (p1 : Int32) (p2 : Int32) (p3 : Int32) {res : Int32} (hF : f2_mastersAmong s0 a0 p1 p2 p3 = some res) : Met l yX2_mastersAmong (Cond.code yX2_mastersAmong cX2_mastersAmong 4 (some .int) :: WT) (rmL 0 0 0) (PP κ A [.ref a0, .int p1, .int p2, .int p3] (HS κ A s0)) (QQ (some (.int res)) (HS κ A s0) A) 0 0 A := by
  refine met_of (own := RX2) (by decide) rfl (Nat.le_of_ble_eq_true rfl) ?_
  intro Γ E hQ hL hR hA hent hini
  have hAA : ∀ q, A q → jA Γ q := fun q h => by rw [hA]; exact h
  have hroom : ∀ (d mL : Nat) {mc ms : Nat}, d < 0 → mL ≤ 21 → (rmL d mc ms).frames + 1 ≤ (jR Γ).frames ∧ 8 + (mL + 11) + (rmL d mc ms).locals ≤ (jR Γ).locals := fun d mL mc ms h1 h2 => by rw [hR]; exact rmL_le h1 h2
  show J Γ 4 (HS κ A s0) 0 0 0 [(0, .ref a0), (1, .int p1), (2, .int p2), (3, .int p3)] []
  unfold f2_mastersAmong at hF
  refine j_blk (pc' := 2) (lv' := [(0, .ref a0), (1, .int p1), (2, .int p2), (3, .int p3)]) (st' := [.ref a0, .int p1]) E b_c2_mastersAmong_0_2 rfl ?_
  replace hF := obd_at hF
  obtain ⟨v1, ev1, hF⟩ := hF
  refine j_getf E fg_RX2_17 d_c2_mastersAmong_2 ev1 ?_
  refine j_blk (pc' := 6) (lv' := [(0, .ref a0), (1, .int p1), (2, .int p2), (3, .int p3)]) (st' := [.int p2, v1, .int p1]) E b_c2_mastersAmong_5_1 rfl ?_
  replace hF := orf_at hF
  obtain ⟨b2, rfl, hF⟩ := hF
  replace hF := obd_at hF
  obtain ⟨v3, ev3, hF⟩ := hF
  refine j_iald E d_c2_mastersAmong_6 ev3 ?_
  refine j_blk (pc' := 8) (lv' := [(0, .ref a0), (1, .int p1), (2, .int p2), (3, .int p3)]) (st' := [.ref a0, .int v3, .int p1]) E b_c2_mastersAmong_7_1 rfl ?_
  replace hF := obd_at hF
  obtain ⟨v4, ev4, hF⟩ := hF
  refine j_getf E fg_RX2_17 d_c2_mastersAmong_8 ev4 ?_
  refine j_blk (pc' := 12) (lv' := [(0, .ref a0), (1, .int p1), (2, .int p2), (3, .int p3)]) (st' := [.int p3, v4, .int v3, .int p1]) E b_c2_mastersAmong_11_1 rfl ?_
  replace hF := orf_at hF
  obtain ⟨b5, rfl, hF⟩ := hF
  replace hF := obd_at hF
  obtain ⟨v6, ev6, hF⟩ := hF
  refine j_iald E d_c2_mastersAmong_12 ev6 ?_
  refine j_blk (pc' := 25) (lv' := [(0, .ref a0), (1, .int p1), (2, .int p2), (3, .int p3)]) (st' := [.int (p1 &&& ((((v3 ||| v6) ||| ((Int32.ofInt 1) <<< (p2 &&& 31))) ||| ((Int32.ofInt 1) <<< (p3 &&& 31))) ^^^ (Int32.ofInt (-1))))]) E b_c2_mastersAmong_13_12 rfl ?_
  have e : res = p1 &&& ((((v3 ||| v6) ||| ((Int32.ofInt 1) <<< (p2 &&& 31))) ||| ((Int32.ofInt 1) <<< (p3 &&& 31))) ^^^ (Int32.ofInt (-1))) := g_inj hF
  subst e
  exact j_iret E hQ d_c2_mastersAmong_25 (fun _ h => h)
theorem b_c2_init_0_1 : bdec cX2_init 0 [.aload_n 0] = true := by decide +kernel
theorem d_c2_init_1 : decode cX2_init 1 = .ok (.invokespecial 3, 3) := by decide +kernel
theorem b_c2_init_4_2 : bdec cX2_init 4 [.aload_n 0, .bipush 8] = true := by decide +kernel
theorem d_c2_init_7 : decode cX2_init 7 = .ok (.anewarray 9, 3) := by decide +kernel
theorem d_c2_init_10 : decode cX2_init 10 = .ok (.putfield 11, 3) := by decide +kernel
theorem b_c2_init_13_2 : bdec cX2_init 13 [.iconst 0, .istore_n 2] = true := by decide +kernel
theorem b_c2_init_15_2 : bdec cX2_init 15 [.iload_n 2, .bipush 8] = true := by decide +kernel
theorem d_c2_init_18 : decode cX2_init 18 = .ok (.if_icmp .ge 16, 3) := by decide +kernel
theorem b_c2_init_21_1 : bdec cX2_init 21 [.aload_n 0] = true := by decide +kernel
theorem d_c2_init_22 : decode cX2_init 22 = .ok (.getfield 11, 3) := by decide +kernel
theorem b_c2_init_25_2 : bdec cX2_init 25 [.iload_n 2, .aload_n 1] = true := by decide +kernel
theorem d_c2_init_27 : decode cX2_init 27 = .ok (.aastore, 1) := by decide +kernel
theorem b_c2_init_28_1 : bdec cX2_init 28 [.iinc 2 1] = true := by decide +kernel
theorem d_c2_init_31 : decode cX2_init 31 = .ok (.goto (-16), 3) := by decide +kernel
theorem b_c2_init_34_2 : bdec cX2_init 34 [.aload_n 0, .bipush 8] = true := by decide +kernel
theorem d_c2_init_37 : decode cX2_init 37 = .ok (.newarray .int, 2) := by decide +kernel
theorem d_c2_init_39 : decode cX2_init 39 = .ok (.putfield 17, 3) := by decide +kernel
theorem b_c2_init_42_2 : bdec cX2_init 42 [.aload_n 0, .iconst 0] = true := by decide +kernel
theorem d_c2_init_44 : decode cX2_init 44 = .ok (.putfield 21, 3) := by decide +kernel
theorem b_c2_init_47_2 : bdec cX2_init 47 [.aload_n 0, .iconst 2] = true := by decide +kernel
theorem d_c2_init_49 : decode cX2_init 49 = .ok (.putfield 25, 3) := by decide +kernel
theorem d_c2_init_52 : decode cX2_init 52 = .ok (.return_, 1) := by decide +kernel
def f2_init_L15 (a0 : Nat) (p1 : Nat) (w : Int32 × HM) : Option ((Int32 × HM) ⊕ (HM)) := match w with
  | (x15_2, s15) => if ((Int8.ofInt 8).toInt32) ≤ x15_2 then (some (.inr s15)) else (obd (hfld s15 [2] 0 a0) (fun v4 => orf v4 (fun b5 => obd (hrst s15 b5 x15_2 (.ref p1)) (fun s6 => some (.inl (x15_2 + Int32.ofInt 1, s6))))))
def f2_init (s0 : HM) (a0 : Nat) (p1 : Nat) : Option (HM) := obd (hput (hnew s0 (.inr (.inr (false, 8, fun _ => none)))) [2] 0 a0 (.ref s0.2)) (fun s1 => obd (iter (f2_init_L15 a0 p1) FU (Int32.ofInt 0, s1)) (fun o2 => match o2 with | t15 => obd (hput (hnew t15 (.inr (.inl (8, fun _ => 0)))) [2] 1 a0 (.ref t15.2)) (fun s7 => obd (hput s7 [2] 2 a0 (.int (Int32.ofInt 0))) (fun s8 => obd (hput s8 [2] 3 a0 (.int (Int32.ofInt 2))) (fun s9 => some s9)))))
set_option maxRecDepth 100000 in
set_option maxHeartbeats 4000000 in
theorem c2_init (l : Launch) (κ : KP) (A : Nat → Prop) (hκ : kF κ = true) (s0 : HM) (a0 : Nat) (p1 : Nat) {res : HM} (hF : f2_init s0 a0 p1 = some res) : Met l yX2_init (Cond.code yX2_init cX2_init 3 none :: WT) (rmL 1 2 16) (PP κ A [.ref a0, .ref p1] (HS κ A s0)) (QQ none (HS κ A res) A) 2 16 A := by
  refine met_of (own := RX2) (by decide) rfl (Nat.le_of_ble_eq_true rfl) ?_
  intro Γ E hQ hL hR hA hent hini
  have hAA : ∀ q, A q → jA Γ q := fun q h => by rw [hA]; exact h
  have hroom : ∀ (d mL : Nat) {mc ms : Nat}, d < 1 → mL ≤ 21 → (rmL d mc ms).frames + 1 ≤ (jR Γ).frames ∧ 8 + (mL + 11) + (rmL d mc ms).locals ≤ (jR Γ).locals := fun d mL mc ms h1 h2 => by rw [hR]; exact rmL_le h1 h2
  show J Γ 3 (HS κ A s0) 0 0 0 [(0, .ref a0), (1, .ref p1)] []
  unfold f2_init at hF
  refine j_blk (pc' := 1) (lv' := [(0, .ref a0), (1, .ref p1)]) (st' := [.ref a0]) E b_c2_init_0_1 rfl ?_
  refine j_obj E ⟨m_95, m_71, m_72⟩ d_c2_init_1 (by rw [hR]; decide) (by rw [hR]; decide) ?_
  refine j_blk (pc' := 7) (lv' := [(0, .ref a0), (1, .ref p1)]) (st' := [.int ((Int8.ofInt 8).toInt32), .ref a0]) E b_c2_init_4_2 rfl ?_
  refine j_newr (N := 8) false E ⟨m_96, n_97⟩ (by decide) (by decide) (by decide) d_c2_init_7 (by rw [hR]; decide) (by rw [hR]; decide) hκ ?_
  replace hF := obd_at hF
  obtain ⟨s1, es1, hF⟩ := hF
  refine j_putF E fp_RX2_11 (hini rfl) d_c2_init_10 rfl rfl es1 hAA ?_
  refine j_blk (pc' := 15) (lv' := [(2, .int (Int32.ofInt 0)), (0, .ref a0), (1, .ref p1)]) (st' := []) E b_c2_init_13_2 rfl ?_
  refine j_lv [1, 2, 0] rfl ?_
  replace hF := obd_at hF
  obtain ⟨o2, ho2, hF⟩ := hF
  have lpo2 : ∀ (fu : Nat) (w : Int32 × HM) (o : HM), iter (f2_init_L15 a0 p1) fu w = some o → (fun (o : HM) => J Γ 3 (HS κ A o) 1 8 34 [(0, .ref a0)] []) o → (fun (w : Int32 × HM) => J Γ 3 (HS κ A w.2) 1 8 15 [(0, .ref a0), (1, .ref p1), (2, .int w.1)] []) w := by
    refine j_iter (P := fun (w : Int32 × HM) => J Γ 3 (HS κ A w.2) 1 8 15 [(0, .ref a0), (1, .ref p1), (2, .int w.1)] []) (G := fun (o : HM) => J Γ 3 (HS κ A o) 1 8 34 [(0, .ref a0)] []) ?_
    rintro ⟨x15_2, s15⟩ q hF hI hO
    show J Γ 3 (HS κ A s15) 1 8 15 [(0, .ref a0), (1, .ref p1), (2, .int x15_2)] []
    unfold f2_init_L15 at hF
    refine j_blk (pc' := 18) (lv' := [(0, .ref a0), (1, .ref p1), (2, .int x15_2)]) (st' := [.int ((Int8.ofInt 8).toInt32), .int x15_2]) E b_c2_init_15_2 rfl ?_
    refine j_icmp_ge (tgt := 34) E d_c2_init_18 (by decide) (fun h3 => ?_) (fun h3 => ?_)
    · replace hF := g_t hF h3
      refine j_lv [0] rfl ?_
      exact hO _ (g_inj hF)
    · replace hF := g_f hF h3
      refine j_blk (pc' := 22) (lv' := [(0, .ref a0), (1, .ref p1), (2, .int x15_2)]) (st' := [.ref a0]) E b_c2_init_21_1 rfl ?_
      replace hF := obd_at hF
      obtain ⟨v4, ev4, hF⟩ := hF
      refine j_getf E fg_RX2_11 d_c2_init_22 ev4 ?_
      refine j_blk (pc' := 27) (lv' := [(0, .ref a0), (1, .ref p1), (2, .int x15_2)]) (st' := [.ref p1, .int x15_2, v4]) E b_c2_init_25_2 rfl ?_
      replace hF := orf_at hF
      obtain ⟨b5, rfl, hF⟩ := hF
      replace hF := obd_at hF
      obtain ⟨s6, es6, hF⟩ := hF
      refine j_rast E ra_ok d_c2_init_27 es6 hAA ?_
      refine j_blk (pc' := 31) (lv' := [(2, .int (x15_2 + Int32.ofInt 1)), (0, .ref a0), (1, .ref p1)]) (st' := []) E b_c2_init_28_1 rfl ?_
      refine j_goto (tgt := 15) E d_c2_init_31 (by decide) ?_
      refine j_lv [1, 2, 0] rfl ?_
      exact hI _ (g_inj hF)
  refine lpo2 FU (Int32.ofInt 0, s1) o2 ho2 ?_
  obtain ⟨t15, rfl⟩ : ∃ z, z = o2 := ⟨_, rfl⟩
  show J Γ 3 (HS κ A t15) 1 8 34 [(0, .ref a0)] []
  refine j_blk (pc' := 37) (lv' := [(0, .ref a0)]) (st' := [.int ((Int8.ofInt 8).toInt32), .ref a0]) E b_c2_init_34_2 rfl ?_
  refine j_newa (N := 8) E m_115 (by decide) (by decide) (by decide) d_c2_init_37 (by rw [hR]; decide) (by rw [hR]; decide) hκ ?_
  replace hF := obd_at hF
  obtain ⟨s7, es7, hF⟩ := hF
  refine j_putF E fp_RX2_17 (hini rfl) d_c2_init_39 rfl rfl es7 hAA ?_
  refine j_blk (pc' := 44) (lv' := [(0, .ref a0)]) (st' := [.int (Int32.ofInt 0), .ref a0]) E b_c2_init_42_2 rfl ?_
  replace hF := obd_at hF
  obtain ⟨s8, es8, hF⟩ := hF
  refine j_put E fp_RX2_21 d_c2_init_44 rfl rfl es8 hAA ?_
  refine j_blk (pc' := 49) (lv' := [(0, .ref a0)]) (st' := [.int (Int32.ofInt 2), .ref a0]) E b_c2_init_47_2 rfl ?_
  replace hF := obd_at hF
  obtain ⟨s9, es9, hF⟩ := hF
  refine j_put E fp_RX2_25 d_c2_init_49 rfl rfl es9 hAA ?_
  have e : res = s9 := g_inj hF
  subst e
  refine j_wid (k' := 2) (n' := 16) (by decide) (by decide) ?_
  exact j_vret E hQ d_c2_init_52 (fun _ h => h)
theorem b_c2_hasBoth_0_2 : bdec cX2_hasBoth 0 [.aload_n 0, .iload_n 1] = true := by decide +kernel
theorem d_c2_hasBoth_2 : decode cX2_hasBoth 2 = .ok (.invokevirtual 28, 3) := by decide +kernel
theorem d_c2_hasBoth_5 : decode cX2_hasBoth 5 = .ok (.ifCond .eq 20, 3) := by decide +kernel
theorem b_c2_hasBoth_25_1 : bdec cX2_hasBoth 25 [.iconst 0] = true := by decide +kernel
theorem d_c2_hasBoth_26 : decode cX2_hasBoth 26 = .ok (.ireturn, 1) := by decide +kernel
theorem b_c2_hasBoth_8_2 : bdec cX2_hasBoth 8 [.aload_n 0, .iload_n 2] = true := by decide +kernel
theorem d_c2_hasBoth_10 : decode cX2_hasBoth 10 = .ok (.invokevirtual 28, 3) := by decide +kernel
theorem d_c2_hasBoth_13 : decode cX2_hasBoth 13 = .ok (.ifCond .eq 12, 3) := by decide +kernel
theorem b_c2_hasBoth_16_2 : bdec cX2_hasBoth 16 [.iload_n 1, .iload_n 2] = true := by decide +kernel
theorem d_c2_hasBoth_18 : decode cX2_hasBoth 18 = .ok (.if_icmp .eq 7, 3) := by decide +kernel
theorem b_c2_hasBoth_21_1 : bdec cX2_hasBoth 21 [.iconst 1] = true := by decide +kernel
theorem d_c2_hasBoth_22 : decode cX2_hasBoth 22 = .ok (.goto 4, 3) := by decide +kernel
def f2_hasBoth (s0 : HM) (a0 : Nat) (p1 : Int32) (p2 : Int32) : Option (Int32) := ocl s0 a0 2 (obd (f2_has s0 a0 p1) (fun v2 => if v2 = 0 then (some (Int32.ofInt 0)) else (ocl s0 a0 2 (obd (f2_has s0 a0 p2) (fun v5 => if v5 = 0 then (some (Int32.ofInt 0)) else (if p1 = p2 then (some (Int32.ofInt 0)) else (some (Int32.ofInt 1))))))))
set_option maxRecDepth 100000 in
set_option maxHeartbeats 4000000 in
theorem c2_hasBoth (l : Launch) (κ : KP) (A : Nat → Prop) (s0 : HM) (a0 : Nat) (p1 : Int32) (p2 : Int32) {res : Int32} (hF : f2_hasBoth s0 a0 p1 p2 = some res) : Met l yX2_hasBoth (Cond.code yX2_hasBoth cX2_hasBoth 3 (some .boolean) :: WT) (rmL 1 0 0) (PP κ A [.ref a0, .int p1, .int p2] (HS κ A s0)) (QQ (some (.int res)) (HS κ A s0) A) 0 0 A := by
  refine met_of (own := RX2) (by decide) rfl (Nat.le_of_ble_eq_true rfl) ?_
  intro Γ E hQ hL hR hA hent hini
  have hAA : ∀ q, A q → jA Γ q := fun q h => by rw [hA]; exact h
  have hroom : ∀ (d mL : Nat) {mc ms : Nat}, d < 1 → mL ≤ 21 → (rmL d mc ms).frames + 1 ≤ (jR Γ).frames ∧ 8 + (mL + 11) + (rmL d mc ms).locals ≤ (jR Γ).locals := fun d mL mc ms h1 h2 => by rw [hR]; exact rmL_le h1 h2
  show J Γ 3 (HS κ A s0) 0 0 0 [(0, .ref a0), (1, .int p1), (2, .int p2)] []
  unfold f2_hasBoth at hF
  refine j_blk (pc' := 2) (lv' := [(0, .ref a0), (1, .int p1), (2, .int p2)]) (st' := [.int p1, .ref a0]) E b_c2_hasBoth_0_2 rfl ?_
  replace hF := ocl_at hF
  obtain ⟨hc, hF⟩ := hF
  replace hF := obd_at hF
  obtain ⟨v2, he1, hF⟩ := hF
  refine j_callv [.int p1] [] E w_RX2_28 (hroom 0 2 (by decide) (by decide)) hAA (c2_has _ κ A _ _ _  he1) (fun _ h => h) (fun _ _ _ h _ _ => h) (fun _ h => j_recv E h hc rfl) rfl rfl (Nat.le_of_ble_eq_true rfl) d_c2_hasBoth_2 ⟨Nat.zero_le _, Nat.zero_le _⟩ ?_
  refine j_if_eq (tgt := 25) E d_c2_hasBoth_5 (by decide) (fun h3 => ?_) (fun h3 => ?_)
  · replace hF := g_t hF h3
    refine j_blk (pc' := 26) (lv' := [(0, .ref a0), (1, .int p1), (2, .int p2)]) (st' := [.int (Int32.ofInt 0)]) E b_c2_hasBoth_25_1 rfl ?_
    have e : res = Int32.ofInt 0 := g_inj hF
    subst e
    exact j_zret E hQ nb_0 d_c2_hasBoth_26 (fun _ h => h)
  · replace hF := g_f hF h3
    refine j_blk (pc' := 10) (lv' := [(0, .ref a0), (1, .int p1), (2, .int p2)]) (st' := [.int p2, .ref a0]) E b_c2_hasBoth_8_2 rfl ?_
    replace hF := ocl_at hF
    obtain ⟨hc, hF⟩ := hF
    replace hF := obd_at hF
    obtain ⟨v5, he4, hF⟩ := hF
    refine j_callv [.int p2] [] E w_RX2_28 (hroom 0 2 (by decide) (by decide)) hAA (c2_has _ κ A _ _ _  he4) (fun _ h => h) (fun _ _ _ h _ _ => h) (fun _ h => j_recv E h hc rfl) rfl rfl (Nat.le_of_ble_eq_true rfl) d_c2_hasBoth_10 ⟨Nat.zero_le _, Nat.zero_le _⟩ ?_
    refine j_if_eq (tgt := 25) E d_c2_hasBoth_13 (by decide) (fun h6 => ?_) (fun h6 => ?_)
    · replace hF := g_t hF h6
      refine j_blk (pc' := 26) (lv' := [(0, .ref a0), (1, .int p1), (2, .int p2)]) (st' := [.int (Int32.ofInt 0)]) E b_c2_hasBoth_25_1 rfl ?_
      have e : res = Int32.ofInt 0 := g_inj hF
      subst e
      exact j_zret E hQ nb_0 d_c2_hasBoth_26 (fun _ h => h)
    · replace hF := g_f hF h6
      refine j_blk (pc' := 18) (lv' := [(0, .ref a0), (1, .int p1), (2, .int p2)]) (st' := [.int p2, .int p1]) E b_c2_hasBoth_16_2 rfl ?_
      refine j_icmp_eq (tgt := 25) E d_c2_hasBoth_18 (by decide) (fun h7 => ?_) (fun h7 => ?_)
      · replace hF := g_t hF h7
        refine j_blk (pc' := 26) (lv' := [(0, .ref a0), (1, .int p1), (2, .int p2)]) (st' := [.int (Int32.ofInt 0)]) E b_c2_hasBoth_25_1 rfl ?_
        have e : res = Int32.ofInt 0 := g_inj hF
        subst e
        exact j_zret E hQ nb_0 d_c2_hasBoth_26 (fun _ h => h)
      · replace hF := g_f hF h7
        refine j_blk (pc' := 22) (lv' := [(0, .ref a0), (1, .int p1), (2, .int p2)]) (st' := [.int (Int32.ofInt 1)]) E b_c2_hasBoth_21_1 rfl ?_
        refine j_goto (tgt := 26) E d_c2_hasBoth_22 (by decide) ?_
        have e : res = Int32.ofInt 1 := g_inj hF
        subst e
        exact j_zret E hQ nb_1 d_c2_hasBoth_26 (fun _ h => h)
theorem b_c2_unseat_0_2 : bdec cX2_unseat 0 [.aload_n 0, .iload_n 1] = true := by decide +kernel
theorem d_c2_unseat_2 : decode cX2_unseat 2 = .ok (.invokevirtual 28, 3) := by decide +kernel
theorem d_c2_unseat_5 : decode cX2_unseat 5 = .ok (.ifCond .ne 4, 3) := by decide +kernel
theorem b_c2_unseat_9_2 : bdec cX2_unseat 9 [.iload_n 1, .istore_n 2] = true := by decide +kernel
theorem b_c2_unseat_11_4 : bdec cX2_unseat 11 [.iload_n 2, .iconst 1, .iadd, .aload_n 0] = true := by decide +kernel
theorem d_c2_unseat_15 : decode cX2_unseat 15 = .ok (.getfield 21, 3) := by decide +kernel
theorem d_c2_unseat_18 : decode cX2_unseat 18 = .ok (.if_icmp .ge 37, 3) := by decide +kernel
theorem b_c2_unseat_21_1 : bdec cX2_unseat 21 [.aload_n 0] = true := by decide +kernel
theorem d_c2_unseat_22 : decode cX2_unseat 22 = .ok (.getfield 11, 3) := by decide +kernel
theorem b_c2_unseat_25_2 : bdec cX2_unseat 25 [.iload_n 2, .aload_n 0] = true := by decide +kernel
theorem d_c2_unseat_27 : decode cX2_unseat 27 = .ok (.getfield 11, 3) := by decide +kernel
theorem b_c2_unseat_30_3 : bdec cX2_unseat 30 [.iload_n 2, .iconst 1, .iadd] = true := by decide +kernel
theorem d_c2_unseat_33 : decode cX2_unseat 33 = .ok (.aaload, 1) := by decide +kernel
theorem d_c2_unseat_34 : decode cX2_unseat 34 = .ok (.aastore, 1) := by decide +kernel
theorem b_c2_unseat_35_1 : bdec cX2_unseat 35 [.aload_n 0] = true := by decide +kernel
theorem d_c2_unseat_36 : decode cX2_unseat 36 = .ok (.getfield 17, 3) := by decide +kernel
theorem b_c2_unseat_39_2 : bdec cX2_unseat 39 [.iload_n 2, .aload_n 0] = true := by decide +kernel
theorem d_c2_unseat_41 : decode cX2_unseat 41 = .ok (.getfield 17, 3) := by decide +kernel
theorem b_c2_unseat_44_3 : bdec cX2_unseat 44 [.iload_n 2, .iconst 1, .iadd] = true := by decide +kernel
theorem d_c2_unseat_47 : decode cX2_unseat 47 = .ok (.iaload, 1) := by decide +kernel
theorem d_c2_unseat_48 : decode cX2_unseat 48 = .ok (.iastore, 1) := by decide +kernel
theorem b_c2_unseat_49_1 : bdec cX2_unseat 49 [.iinc 2 1] = true := by decide +kernel
theorem d_c2_unseat_52 : decode cX2_unseat 52 = .ok (.goto (-41), 3) := by decide +kernel
theorem b_c2_unseat_55_2 : bdec cX2_unseat 55 [.aload_n 0, .dup] = true := by decide +kernel
theorem d_c2_unseat_57 : decode cX2_unseat 57 = .ok (.getfield 21, 3) := by decide +kernel
theorem b_c2_unseat_60_2 : bdec cX2_unseat 60 [.iconst 1, .isub] = true := by decide +kernel
theorem d_c2_unseat_62 : decode cX2_unseat 62 = .ok (.putfield 21, 3) := by decide +kernel
theorem b_c2_unseat_65_8 : bdec cX2_unseat 65 [.iconst 1, .iload_n 1, .ishl, .iconst 1, .isub, .istore_n 2, .iconst 0, .istore_n 3] = true := by decide +kernel
theorem b_c2_unseat_73_2 : bdec cX2_unseat 73 [.iload_n 3, .aload_n 0] = true := by decide +kernel
theorem d_c2_unseat_75 : decode cX2_unseat 75 = .ok (.getfield 21, 3) := by decide +kernel
theorem d_c2_unseat_78 : decode cX2_unseat 78 = .ok (.if_icmp .ge 36, 3) := by decide +kernel
theorem b_c2_unseat_81_1 : bdec cX2_unseat 81 [.aload_n 0] = true := by decide +kernel
theorem d_c2_unseat_82 : decode cX2_unseat 82 = .ok (.getfield 17, 3) := by decide +kernel
theorem b_c2_unseat_85_2 : bdec cX2_unseat 85 [.iload_n 3, .aload_n 0] = true := by decide +kernel
theorem d_c2_unseat_87 : decode cX2_unseat 87 = .ok (.getfield 17, 3) := by decide +kernel
theorem b_c2_unseat_90_1 : bdec cX2_unseat 90 [.iload_n 3] = true := by decide +kernel
theorem d_c2_unseat_91 : decode cX2_unseat 91 = .ok (.iaload, 1) := by decide +kernel
theorem b_c2_unseat_92_3 : bdec cX2_unseat 92 [.iload_n 2, .iand, .aload_n 0] = true := by decide +kernel
theorem d_c2_unseat_95 : decode cX2_unseat 95 = .ok (.getfield 17, 3) := by decide +kernel
theorem b_c2_unseat_98_1 : bdec cX2_unseat 98 [.iload_n 3] = true := by decide +kernel
theorem d_c2_unseat_99 : decode cX2_unseat 99 = .ok (.iaload, 1) := by decide +kernel
theorem b_c2_unseat_100_7 : bdec cX2_unseat 100 [.iconst 1, .ishr, .iload_n 2, .iconst (-1), .ixor, .iand, .ior] = true := by decide +kernel
theorem d_c2_unseat_107 : decode cX2_unseat 107 = .ok (.iastore, 1) := by decide +kernel
theorem b_c2_unseat_108_1 : bdec cX2_unseat 108 [.iinc 3 1] = true := by decide +kernel
theorem d_c2_unseat_111 : decode cX2_unseat 111 = .ok (.goto (-38), 3) := by decide +kernel
theorem d_c2_unseat_114 : decode cX2_unseat 114 = .ok (.return_, 1) := by decide +kernel
theorem d_c2_unseat_8 : decode cX2_unseat 8 = .ok (.return_, 1) := by decide +kernel
def f2_unseat_L11 (a0 : Nat) (p1 : Int32) (w : Int32 × HM) : Option ((Int32 × HM) ⊕ (HM)) := match w with
  | (x11_2, s11) => obd (hfi s11 [2] 2 a0) (fun v5 => if v5 ≤ (x11_2 + (Int32.ofInt 1)) then (some (.inr s11)) else (obd (hfld s11 [2] 0 a0) (fun v7 => obd (hfld s11 [2] 0 a0) (fun v8 => orf v8 (fun b9 => obd (hrld s11 b9 (x11_2 + (Int32.ofInt 1))) (fun v10 => orf v7 (fun b11 => obd (hrst s11 b11 x11_2 v10) (fun s12 => obd (hfld s12 [2] 1 a0) (fun v13 => obd (hfld s12 [2] 1 a0) (fun v14 => orf v14 (fun b15 => obd (hald s12 b15 (x11_2 + (Int32.ofInt 1))) (fun v16 => orf v13 (fun b17 => obd (hast s12 b17 x11_2 v16) (fun s18 => some (.inl (x11_2 + Int32.ofInt 1, s18))))))))))))))))
def f2_unseat_L73 (a0 : Nat) (c73_2 : Int32) (w : Int32 × HM) : Option ((Int32 × HM) ⊕ (HM)) := match w with
  | (x73_3, s73) => obd (hfi s73 [2] 2 a0) (fun v22 => if v22 ≤ x73_3 then (some (.inr s73)) else (obd (hfld s73 [2] 1 a0) (fun v24 => obd (hfld s73 [2] 1 a0) (fun v25 => orf v25 (fun b26 => obd (hald s73 b26 x73_3) (fun v27 => obd (hfld s73 [2] 1 a0) (fun v28 => orf v28 (fun b29 => obd (hald s73 b29 x73_3) (fun v30 => orf v24 (fun b31 => obd (hast s73 b31 x73_3 ((v27 &&& c73_2) ||| ((v30 >>> ((Int32.ofInt 1) &&& 31)) &&& (c73_2 ^^^ (Int32.ofInt (-1)))))) (fun s32 => some (.inl (x73_3 + Int32.ofInt 1, s32)))))))))))))
def f2_unseat (s0 : HM) (a0 : Nat) (p1 : Int32) : Option (HM) := ocl s0 a0 2 (obd (f2_has s0 a0 p1) (fun v2 => if v2 = 0 then (some s0) else (obd (iter (f2_unseat_L11 a0 p1) FU (p1, s0)) (fun o4 => match o4 with | t11 => obd (hfi t11 [2] 2 a0) (fun v19 => obd (hput t11 [2] 2 a0 (.int (v19 - (Int32.ofInt 1)))) (fun s20 => obd (iter (f2_unseat_L73 a0 (((Int32.ofInt 1) <<< (p1 &&& 31)) - (Int32.ofInt 1))) FU (Int32.ofInt 0, s20)) (fun o21 => match o21 with | t73 => some t73)))))))
set_option maxRecDepth 100000 in
set_option maxHeartbeats 4000000 in
theorem c2_unseat (l : Launch) (κ : KP) (A : Nat → Prop) (s0 : HM) (a0 : Nat) (p1 : Int32) {res : HM} (hF : f2_unseat s0 a0 p1 = some res) : Met l yX2_unseat (Cond.code yX2_unseat cX2_unseat 4 none :: WT) (rmL 1 0 0) (PP κ A [.ref a0, .int p1] (HS κ A s0)) (QQ none (HS κ A res) A) 0 0 A := by
  refine met_of (own := RX2) (by decide) rfl (Nat.le_of_ble_eq_true rfl) ?_
  intro Γ E hQ hL hR hA hent hini
  have hAA : ∀ q, A q → jA Γ q := fun q h => by rw [hA]; exact h
  have hroom : ∀ (d mL : Nat) {mc ms : Nat}, d < 1 → mL ≤ 21 → (rmL d mc ms).frames + 1 ≤ (jR Γ).frames ∧ 8 + (mL + 11) + (rmL d mc ms).locals ≤ (jR Γ).locals := fun d mL mc ms h1 h2 => by rw [hR]; exact rmL_le h1 h2
  show J Γ 4 (HS κ A s0) 0 0 0 [(0, .ref a0), (1, .int p1)] []
  unfold f2_unseat at hF
  refine j_blk (pc' := 2) (lv' := [(0, .ref a0), (1, .int p1)]) (st' := [.int p1, .ref a0]) E b_c2_unseat_0_2 rfl ?_
  replace hF := ocl_at hF
  obtain ⟨hc, hF⟩ := hF
  replace hF := obd_at hF
  obtain ⟨v2, he1, hF⟩ := hF
  refine j_callv [.int p1] [] E w_RX2_28 (hroom 0 2 (by decide) (by decide)) hAA (c2_has _ κ A _ _ _  he1) (fun _ h => h) (fun _ _ _ h _ _ => h) (fun _ h => j_recv E h hc rfl) rfl rfl (Nat.le_of_ble_eq_true rfl) d_c2_unseat_2 ⟨Nat.zero_le _, Nat.zero_le _⟩ ?_
  refine j_if_ne (tgt := 9) E d_c2_unseat_5 (by decide) (fun h3 => ?_) (fun h3 => ?_)
  · replace hF := g_f hF h3
    refine j_blk (pc' := 11) (lv' := [(2, .int p1), (0, .ref a0), (1, .int p1)]) (st' := []) E b_c2_unseat_9_2 rfl ?_
    refine j_lv [1, 2, 0] rfl ?_
    replace hF := obd_at hF
    obtain ⟨o4, ho4, hF⟩ := hF
    have lpo4 : ∀ (fu : Nat) (w : Int32 × HM) (o : HM), iter (f2_unseat_L11 a0 p1) fu w = some o → (fun (o : HM) => J Γ 4 (HS κ A o) 0 0 55 [(0, .ref a0), (1, .int p1)] []) o → (fun (w : Int32 × HM) => J Γ 4 (HS κ A w.2) 0 0 11 [(0, .ref a0), (1, .int p1), (2, .int w.1)] []) w := by
      refine j_iter (P := fun (w : Int32 × HM) => J Γ 4 (HS κ A w.2) 0 0 11 [(0, .ref a0), (1, .int p1), (2, .int w.1)] []) (G := fun (o : HM) => J Γ 4 (HS κ A o) 0 0 55 [(0, .ref a0), (1, .int p1)] []) ?_
      rintro ⟨x11_2, s11⟩ q hF hI hO
      show J Γ 4 (HS κ A s11) 0 0 11 [(0, .ref a0), (1, .int p1), (2, .int x11_2)] []
      unfold f2_unseat_L11 at hF
      refine j_blk (pc' := 15) (lv' := [(0, .ref a0), (1, .int p1), (2, .int x11_2)]) (st' := [.ref a0, .int (x11_2 + (Int32.ofInt 1))]) E b_c2_unseat_11_4 rfl ?_
      replace hF := obd_at hF
      obtain ⟨v5, ev5, hF⟩ := hF
      refine j_getI E fg_RX2_21 d_c2_unseat_15 ev5 ?_
      refine j_icmp_ge (tgt := 55) E d_c2_unseat_18 (by decide) (fun h6 => ?_) (fun h6 => ?_)
      · replace hF := g_t hF h6
        refine j_lv [0, 1] rfl ?_
        exact hO _ (g_inj hF)
      · replace hF := g_f hF h6
        refine j_blk (pc' := 22) (lv' := [(0, .ref a0), (1, .int p1), (2, .int x11_2)]) (st' := [.ref a0]) E b_c2_unseat_21_1 rfl ?_
        replace hF := obd_at hF
        obtain ⟨v7, ev7, hF⟩ := hF
        refine j_getf E fg_RX2_11 d_c2_unseat_22 ev7 ?_
        refine j_blk (pc' := 27) (lv' := [(0, .ref a0), (1, .int p1), (2, .int x11_2)]) (st' := [.ref a0, .int x11_2, v7]) E b_c2_unseat_25_2 rfl ?_
        replace hF := obd_at hF
        obtain ⟨v8, ev8, hF⟩ := hF
        refine j_getf E fg_RX2_11 d_c2_unseat_27 ev8 ?_
        refine j_blk (pc' := 33) (lv' := [(0, .ref a0), (1, .int p1), (2, .int x11_2)]) (st' := [.int (x11_2 + (Int32.ofInt 1)), v8, .int x11_2, v7]) E b_c2_unseat_30_3 rfl ?_
        replace hF := orf_at hF
        obtain ⟨b9, rfl, hF⟩ := hF
        replace hF := obd_at hF
        obtain ⟨v10, ev10, hF⟩ := hF
        refine j_rald E d_c2_unseat_33 ev10 ?_
        replace hF := orf_at hF
        obtain ⟨b11, rfl, hF⟩ := hF
        replace hF := obd_at hF
        obtain ⟨s12, es12, hF⟩ := hF
        refine j_rast E ra_ok d_c2_unseat_34 es12 hAA ?_
        refine j_blk (pc' := 36) (lv' := [(0, .ref a0), (1, .int p1), (2, .int x11_2)]) (st' := [.ref a0]) E b_c2_unseat_35_1 rfl ?_
        replace hF := obd_at hF
        obtain ⟨v13, ev13, hF⟩ := hF
        refine j_getf E fg_RX2_17 d_c2_unseat_36 ev13 ?_
        refine j_blk (pc' := 41) (lv' := [(0, .ref a0), (1, .int p1), (2, .int x11_2)]) (st' := [.ref a0, .int x11_2, v13]) E b_c2_unseat_39_2 rfl ?_
        replace hF := obd_at hF
        obtain ⟨v14, ev14, hF⟩ := hF
        refine j_getf E fg_RX2_17 d_c2_unseat_41 ev14 ?_
        refine j_blk (pc' := 47) (lv' := [(0, .ref a0), (1, .int p1), (2, .int x11_2)]) (st' := [.int (x11_2 + (Int32.ofInt 1)), v14, .int x11_2, v13]) E b_c2_unseat_44_3 rfl ?_
        replace hF := orf_at hF
        obtain ⟨b15, rfl, hF⟩ := hF
        replace hF := obd_at hF
        obtain ⟨v16, ev16, hF⟩ := hF
        refine j_iald E d_c2_unseat_47 ev16 ?_
        replace hF := orf_at hF
        obtain ⟨b17, rfl, hF⟩ := hF
        replace hF := obd_at hF
        obtain ⟨s18, es18, hF⟩ := hF
        refine j_iast E d_c2_unseat_48 es18 hAA ?_
        refine j_blk (pc' := 52) (lv' := [(2, .int (x11_2 + Int32.ofInt 1)), (0, .ref a0), (1, .int p1)]) (st' := []) E b_c2_unseat_49_1 rfl ?_
        refine j_goto (tgt := 11) E d_c2_unseat_52 (by decide) ?_
        refine j_lv [1, 2, 0] rfl ?_
        exact hI _ (g_inj hF)
    refine lpo4 FU (p1, s0) o4 ho4 ?_
    obtain ⟨t11, rfl⟩ : ∃ z, z = o4 := ⟨_, rfl⟩
    show J Γ 4 (HS κ A t11) 0 0 55 [(0, .ref a0), (1, .int p1)] []
    refine j_blk (pc' := 57) (lv' := [(0, .ref a0), (1, .int p1)]) (st' := [.ref a0, .ref a0]) E b_c2_unseat_55_2 rfl ?_
    replace hF := obd_at hF
    obtain ⟨v19, ev19, hF⟩ := hF
    refine j_getI E fg_RX2_21 d_c2_unseat_57 ev19 ?_
    refine j_blk (pc' := 62) (lv' := [(0, .ref a0), (1, .int p1)]) (st' := [.int (v19 - (Int32.ofInt 1)), .ref a0]) E b_c2_unseat_60_2 rfl ?_
    replace hF := obd_at hF
    obtain ⟨s20, es20, hF⟩ := hF
    refine j_put E fp_RX2_21 d_c2_unseat_62 rfl rfl es20 hAA ?_
    refine j_blk (pc' := 73) (lv' := [(3, .int (Int32.ofInt 0)), (2, .int (((Int32.ofInt 1) <<< (p1 &&& 31)) - (Int32.ofInt 1))), (0, .ref a0), (1, .int p1)]) (st' := []) E b_c2_unseat_65_8 rfl ?_
    refine j_lv [2, 1, 0] rfl ?_
    replace hF := obd_at hF
    obtain ⟨o21, ho21, hF⟩ := hF
    have lpo21 : ∀ (c73_2 : Int32), ∀ (fu : Nat) (w : Int32 × HM) (o : HM), iter (f2_unseat_L73 a0 c73_2) fu w = some o → (fun (o : HM) => J Γ 4 (HS κ A o) 0 0 114 [] []) o → (fun (w : Int32 × HM) => J Γ 4 (HS κ A w.2) 0 0 73 [(0, .ref a0), (2, .int c73_2), (3, .int w.1)] []) w := by
      intro c73_2
      refine j_iter (P := fun (w : Int32 × HM) => J Γ 4 (HS κ A w.2) 0 0 73 [(0, .ref a0), (2, .int c73_2), (3, .int w.1)] []) (G := fun (o : HM) => J Γ 4 (HS κ A o) 0 0 114 [] []) ?_
      rintro ⟨x73_3, s73⟩ q hF hI hO
      show J Γ 4 (HS κ A s73) 0 0 73 [(0, .ref a0), (2, .int c73_2), (3, .int x73_3)] []
      unfold f2_unseat_L73 at hF
      refine j_blk (pc' := 75) (lv' := [(0, .ref a0), (2, .int c73_2), (3, .int x73_3)]) (st' := [.ref a0, .int x73_3]) E b_c2_unseat_73_2 rfl ?_
      replace hF := obd_at hF
      obtain ⟨v22, ev22, hF⟩ := hF
      refine j_getI E fg_RX2_21 d_c2_unseat_75 ev22 ?_
      refine j_icmp_ge (tgt := 114) E d_c2_unseat_78 (by decide) (fun h23 => ?_) (fun h23 => ?_)
      · replace hF := g_t hF h23
        refine j_lv [] rfl ?_
        exact hO _ (g_inj hF)
      · replace hF := g_f hF h23
        refine j_blk (pc' := 82) (lv' := [(0, .ref a0), (2, .int c73_2), (3, .int x73_3)]) (st' := [.ref a0]) E b_c2_unseat_81_1 rfl ?_
        replace hF := obd_at hF
        obtain ⟨v24, ev24, hF⟩ := hF
        refine j_getf E fg_RX2_17 d_c2_unseat_82 ev24 ?_
        refine j_blk (pc' := 87) (lv' := [(0, .ref a0), (2, .int c73_2), (3, .int x73_3)]) (st' := [.ref a0, .int x73_3, v24]) E b_c2_unseat_85_2 rfl ?_
        replace hF := obd_at hF
        obtain ⟨v25, ev25, hF⟩ := hF
        refine j_getf E fg_RX2_17 d_c2_unseat_87 ev25 ?_
        refine j_blk (pc' := 91) (lv' := [(0, .ref a0), (2, .int c73_2), (3, .int x73_3)]) (st' := [.int x73_3, v25, .int x73_3, v24]) E b_c2_unseat_90_1 rfl ?_
        replace hF := orf_at hF
        obtain ⟨b26, rfl, hF⟩ := hF
        replace hF := obd_at hF
        obtain ⟨v27, ev27, hF⟩ := hF
        refine j_iald E d_c2_unseat_91 ev27 ?_
        refine j_blk (pc' := 95) (lv' := [(0, .ref a0), (2, .int c73_2), (3, .int x73_3)]) (st' := [.ref a0, .int (v27 &&& c73_2), .int x73_3, v24]) E b_c2_unseat_92_3 rfl ?_
        replace hF := obd_at hF
        obtain ⟨v28, ev28, hF⟩ := hF
        refine j_getf E fg_RX2_17 d_c2_unseat_95 ev28 ?_
        refine j_blk (pc' := 99) (lv' := [(0, .ref a0), (2, .int c73_2), (3, .int x73_3)]) (st' := [.int x73_3, v28, .int (v27 &&& c73_2), .int x73_3, v24]) E b_c2_unseat_98_1 rfl ?_
        replace hF := orf_at hF
        obtain ⟨b29, rfl, hF⟩ := hF
        replace hF := obd_at hF
        obtain ⟨v30, ev30, hF⟩ := hF
        refine j_iald E d_c2_unseat_99 ev30 ?_
        refine j_blk (pc' := 107) (lv' := [(0, .ref a0), (2, .int c73_2), (3, .int x73_3)]) (st' := [.int ((v27 &&& c73_2) ||| ((v30 >>> ((Int32.ofInt 1) &&& 31)) &&& (c73_2 ^^^ (Int32.ofInt (-1))))), .int x73_3, v24]) E b_c2_unseat_100_7 rfl ?_
        replace hF := orf_at hF
        obtain ⟨b31, rfl, hF⟩ := hF
        replace hF := obd_at hF
        obtain ⟨s32, es32, hF⟩ := hF
        refine j_iast E d_c2_unseat_107 es32 hAA ?_
        refine j_blk (pc' := 111) (lv' := [(3, .int (x73_3 + Int32.ofInt 1)), (0, .ref a0), (2, .int c73_2)]) (st' := []) E b_c2_unseat_108_1 rfl ?_
        refine j_goto (tgt := 73) E d_c2_unseat_111 (by decide) ?_
        refine j_lv [1, 2, 0] rfl ?_
        exact hI _ (g_inj hF)
    refine lpo21 (((Int32.ofInt 1) <<< (p1 &&& 31)) - (Int32.ofInt 1)) FU (Int32.ofInt 0, s20) o21 ho21 ?_
    obtain ⟨t73, rfl⟩ : ∃ z, z = o21 := ⟨_, rfl⟩
    show J Γ 4 (HS κ A t73) 0 0 114 [] []
    have e : res = t73 := g_inj hF
    subst e
    exact j_vret E hQ d_c2_unseat_114 (fun _ h => h)
  · replace hF := g_t hF h3
    have e : res = s0 := g_inj hF
    subst e
    exact j_vret E hQ d_c2_unseat_8 (fun _ h => h)
theorem b_c2_play_0_2 : bdec cX2_play 0 [.iconst 0, .istore_n 2] = true := by decide +kernel
theorem b_c2_play_2_2 : bdec cX2_play 2 [.iload_n 2, .aload_n 0] = true := by decide +kernel
theorem d_c2_play_4 : decode cX2_play 4 = .ok (.getfield 21, 3) := by decide +kernel
theorem d_c2_play_7 : decode cX2_play 7 = .ok (.if_icmp .ge 16, 3) := by decide +kernel
theorem b_c2_play_10_1 : bdec cX2_play 10 [.aload_n 0] = true := by decide +kernel
theorem d_c2_play_11 : decode cX2_play 11 = .ok (.getfield 17, 3) := by decide +kernel
theorem b_c2_play_14_2 : bdec cX2_play 14 [.iload_n 2, .iconst 0] = true := by decide +kernel
theorem d_c2_play_16 : decode cX2_play 16 = .ok (.iastore, 1) := by decide +kernel
theorem b_c2_play_17_1 : bdec cX2_play 17 [.iinc 2 1] = true := by decide +kernel
theorem d_c2_play_20 : decode cX2_play 20 = .ok (.goto (-18), 3) := by decide +kernel
theorem b_c2_play_23_2 : bdec cX2_play 23 [.iconst 0, .istore_n 2] = true := by decide +kernel
theorem b_c2_play_25_2 : bdec cX2_play 25 [.iload_n 2, .aload_n 0] = true := by decide +kernel
theorem d_c2_play_27 : decode cX2_play 27 = .ok (.invokevirtual 46, 3) := by decide +kernel
theorem d_c2_play_30 : decode cX2_play 30 = .ok (.if_icmp .ge 60, 3) := by decide +kernel
theorem b_c2_play_33_5 : bdec cX2_play 33 [.iload_n 1, .iload_n 2, .ishr, .iconst 1, .iand] = true := by decide +kernel
theorem d_c2_play_38 : decode cX2_play 38 = .ok (.ifCond .eq 26, 3) := by decide +kernel
theorem b_c2_play_64_1 : bdec cX2_play 64 [.aload_n 0] = true := by decide +kernel
theorem d_c2_play_65 : decode cX2_play 65 = .ok (.getfield 17, 3) := by decide +kernel
theorem d_c2_play_68 : decode cX2_play 68 = .ok (.getstatic 35, 3) := by decide +kernel
theorem b_c2_play_71_1 : bdec cX2_play 71 [.iload_n 2] = true := by decide +kernel
theorem d_c2_play_72 : decode cX2_play 72 = .ok (.iaload, 1) := by decide +kernel
theorem b_c2_play_73_1 : bdec cX2_play 73 [.dup2] = true := by decide +kernel
theorem d_c2_play_74 : decode cX2_play 74 = .ok (.iaload, 1) := by decide +kernel
theorem b_c2_play_75_1 : bdec cX2_play 75 [.iconst 1] = true := by decide +kernel
theorem d_c2_play_76 : decode cX2_play 76 = .ok (.getstatic 32, 3) := by decide +kernel
theorem b_c2_play_79_1 : bdec cX2_play 79 [.iload_n 2] = true := by decide +kernel
theorem d_c2_play_80 : decode cX2_play 80 = .ok (.iaload, 1) := by decide +kernel
theorem b_c2_play_81_2 : bdec cX2_play 81 [.ishl, .ior] = true := by decide +kernel
theorem d_c2_play_83 : decode cX2_play 83 = .ok (.iastore, 1) := by decide +kernel
theorem b_c2_play_84_1 : bdec cX2_play 84 [.iinc 2 1] = true := by decide +kernel
theorem d_c2_play_87 : decode cX2_play 87 = .ok (.goto (-62), 3) := by decide +kernel
theorem b_c2_play_41_1 : bdec cX2_play 41 [.aload_n 0] = true := by decide +kernel
theorem d_c2_play_42 : decode cX2_play 42 = .ok (.getfield 17, 3) := by decide +kernel
theorem d_c2_play_45 : decode cX2_play 45 = .ok (.getstatic 32, 3) := by decide +kernel
theorem b_c2_play_48_1 : bdec cX2_play 48 [.iload_n 2] = true := by decide +kernel
theorem d_c2_play_49 : decode cX2_play 49 = .ok (.iaload, 1) := by decide +kernel
theorem b_c2_play_50_1 : bdec cX2_play 50 [.dup2] = true := by decide +kernel
theorem d_c2_play_51 : decode cX2_play 51 = .ok (.iaload, 1) := by decide +kernel
theorem b_c2_play_52_1 : bdec cX2_play 52 [.iconst 1] = true := by decide +kernel
theorem d_c2_play_53 : decode cX2_play 53 = .ok (.getstatic 35, 3) := by decide +kernel
theorem b_c2_play_56_1 : bdec cX2_play 56 [.iload_n 2] = true := by decide +kernel
theorem d_c2_play_57 : decode cX2_play 57 = .ok (.iaload, 1) := by decide +kernel
theorem b_c2_play_58_2 : bdec cX2_play 58 [.ishl, .ior] = true := by decide +kernel
theorem d_c2_play_60 : decode cX2_play 60 = .ok (.iastore, 1) := by decide +kernel
theorem d_c2_play_61 : decode cX2_play 61 = .ok (.goto 23, 3) := by decide +kernel
theorem d_c2_play_90 : decode cX2_play 90 = .ok (.return_, 1) := by decide +kernel
def f2_play_L2 (a0 : Nat) (p1 : Int32) (w : Int32 × HM) : Option ((Int32 × HM) ⊕ (HM)) := match w with
  | (x2_2, s2) => obd (hfi s2 [2] 2 a0) (fun v2 => if v2 ≤ x2_2 then (some (.inr s2)) else (obd (hfld s2 [2] 1 a0) (fun v4 => orf v4 (fun b5 => obd (hast s2 b5 x2_2 (Int32.ofInt 0)) (fun s6 => some (.inl (x2_2 + Int32.ofInt 1, s6)))))))
def f2_play_L25 (a0 : Nat) (p1 : Int32) (w : Int32 × HM) : Option ((Int32 × HM) ⊕ (HM)) := match w with
  | (x25_2, s25) => ocl s25 a0 2 (obd (f2_matches s25 a0) (fun v9 => if v9 ≤ x25_2 then (some (.inr s25)) else (if ((p1 >>> (x25_2 &&& 31)) &&& (Int32.ofInt 1)) = 0 then (obd (hfld s25 [2] 1 a0) (fun v12 => ogd (inb x25_2 28) (orf v12 (fun b13 => obd (hald s25 b13 (tbG x25_2.toNatClampNeg)) (fun v14 => ogd (inb x25_2 28) (obd (hast s25 b13 (tbG x25_2.toNatClampNeg) (v14 ||| ((Int32.ofInt 1) <<< ((tbL x25_2.toNatClampNeg) &&& 31)))) (fun s15 => some (.inl (x25_2 + Int32.ofInt 1, s15))))))))) else (obd (hfld s25 [2] 1 a0) (fun v16 => ogd (inb x25_2 28) (orf v16 (fun b17 => obd (hald s25 b17 (tbL x25_2.toNatClampNeg)) (fun v18 => ogd (inb x25_2 28) (obd (hast s25 b17 (tbL x25_2.toNatClampNeg) (v18 ||| ((Int32.ofInt 1) <<< ((tbG x25_2.toNatClampNeg) &&& 31)))) (fun s19 => some (.inl (x25_2 + Int32.ofInt 1, s19))))))))))))
def f2_play (s0 : HM) (a0 : Nat) (p1 : Int32) : Option (HM) := obd (iter (f2_play_L2 a0 p1) FU (Int32.ofInt 0, s0)) (fun o1 => match o1 with | t2 => obd (iter (f2_play_L25 a0 p1) FU (Int32.ofInt 0, t2)) (fun o7 => match o7 with | t25 => some t25))
set_option maxRecDepth 100000 in
set_option maxHeartbeats 4000000 in
theorem c2_play (l : Launch) (κ : KP) (A : Nat → Prop) (s0 : HM) (a0 : Nat) (p1 : Int32) {res : HM} (hF : f2_play s0 a0 p1 = some res) : Met l yX2_play (Cond.code yX2_play cX2_play 3 none :: WT) (rmL 1 0 0) (PP κ A [.ref a0, .int p1] (HS κ A s0)) (QQ none (HS κ A res) A) 0 0 A := by
  refine met_of (own := RX2) (by decide) rfl (Nat.le_of_ble_eq_true rfl) ?_
  intro Γ E hQ hL hR hA hent hini
  have hAA : ∀ q, A q → jA Γ q := fun q h => by rw [hA]; exact h
  have hroom : ∀ (d mL : Nat) {mc ms : Nat}, d < 1 → mL ≤ 21 → (rmL d mc ms).frames + 1 ≤ (jR Γ).frames ∧ 8 + (mL + 11) + (rmL d mc ms).locals ≤ (jR Γ).locals := fun d mL mc ms h1 h2 => by rw [hR]; exact rmL_le h1 h2
  show J Γ 3 (HS κ A s0) 0 0 0 [(0, .ref a0), (1, .int p1)] []
  unfold f2_play at hF
  refine j_blk (pc' := 2) (lv' := [(2, .int (Int32.ofInt 0)), (0, .ref a0), (1, .int p1)]) (st' := []) E b_c2_play_0_2 rfl ?_
  refine j_lv [1, 2, 0] rfl ?_
  replace hF := obd_at hF
  obtain ⟨o1, ho1, hF⟩ := hF
  have lpo1 : ∀ (fu : Nat) (w : Int32 × HM) (o : HM), iter (f2_play_L2 a0 p1) fu w = some o → (fun (o : HM) => J Γ 3 (HS κ A o) 0 0 23 [(0, .ref a0), (1, .int p1)] []) o → (fun (w : Int32 × HM) => J Γ 3 (HS κ A w.2) 0 0 2 [(0, .ref a0), (1, .int p1), (2, .int w.1)] []) w := by
    refine j_iter (P := fun (w : Int32 × HM) => J Γ 3 (HS κ A w.2) 0 0 2 [(0, .ref a0), (1, .int p1), (2, .int w.1)] []) (G := fun (o : HM) => J Γ 3 (HS κ A o) 0 0 23 [(0, .ref a0), (1, .int p1)] []) ?_
    rintro ⟨x2_2, s2⟩ q hF hI hO
    show J Γ 3 (HS κ A s2) 0 0 2 [(0, .ref a0), (1, .int p1), (2, .int x2_2)] []
    unfold f2_play_L2 at hF
    refine j_blk (pc' := 4) (lv' := [(0, .ref a0), (1, .int p1), (2, .int x2_2)]) (st' := [.ref a0, .int x2_2]) E b_c2_play_2_2 rfl ?_
    replace hF := obd_at hF
    obtain ⟨v2, ev2, hF⟩ := hF
    refine j_getI E fg_RX2_21 d_c2_play_4 ev2 ?_
    refine j_icmp_ge (tgt := 23) E d_c2_play_7 (by decide) (fun h3 => ?_) (fun h3 => ?_)
    · replace hF := g_t hF h3
      refine j_lv [0, 1] rfl ?_
      exact hO _ (g_inj hF)
    · replace hF := g_f hF h3
      refine j_blk (pc' := 11) (lv' := [(0, .ref a0), (1, .int p1), (2, .int x2_2)]) (st' := [.ref a0]) E b_c2_play_10_1 rfl ?_
      replace hF := obd_at hF
      obtain ⟨v4, ev4, hF⟩ := hF
      refine j_getf E fg_RX2_17 d_c2_play_11 ev4 ?_
      refine j_blk (pc' := 16) (lv' := [(0, .ref a0), (1, .int p1), (2, .int x2_2)]) (st' := [.int (Int32.ofInt 0), .int x2_2, v4]) E b_c2_play_14_2 rfl ?_
      replace hF := orf_at hF
      obtain ⟨b5, rfl, hF⟩ := hF
      replace hF := obd_at hF
      obtain ⟨s6, es6, hF⟩ := hF
      refine j_iast E d_c2_play_16 es6 hAA ?_
      refine j_blk (pc' := 20) (lv' := [(2, .int (x2_2 + Int32.ofInt 1)), (0, .ref a0), (1, .int p1)]) (st' := []) E b_c2_play_17_1 rfl ?_
      refine j_goto (tgt := 2) E d_c2_play_20 (by decide) ?_
      refine j_lv [1, 2, 0] rfl ?_
      exact hI _ (g_inj hF)
  refine lpo1 FU (Int32.ofInt 0, s0) o1 ho1 ?_
  obtain ⟨t2, rfl⟩ : ∃ z, z = o1 := ⟨_, rfl⟩
  show J Γ 3 (HS κ A t2) 0 0 23 [(0, .ref a0), (1, .int p1)] []
  refine j_blk (pc' := 25) (lv' := [(2, .int (Int32.ofInt 0)), (0, .ref a0), (1, .int p1)]) (st' := []) E b_c2_play_23_2 rfl ?_
  refine j_lv [1, 2, 0] rfl ?_
  replace hF := obd_at hF
  obtain ⟨o7, ho7, hF⟩ := hF
  have lpo7 : ∀ (fu : Nat) (w : Int32 × HM) (o : HM), iter (f2_play_L25 a0 p1) fu w = some o → (fun (o : HM) => J Γ 3 (HS κ A o) 0 0 90 [] []) o → (fun (w : Int32 × HM) => J Γ 3 (HS κ A w.2) 0 0 25 [(0, .ref a0), (1, .int p1), (2, .int w.1)] []) w := by
    refine j_iter (P := fun (w : Int32 × HM) => J Γ 3 (HS κ A w.2) 0 0 25 [(0, .ref a0), (1, .int p1), (2, .int w.1)] []) (G := fun (o : HM) => J Γ 3 (HS κ A o) 0 0 90 [] []) ?_
    rintro ⟨x25_2, s25⟩ q hF hI hO
    show J Γ 3 (HS κ A s25) 0 0 25 [(0, .ref a0), (1, .int p1), (2, .int x25_2)] []
    unfold f2_play_L25 at hF
    refine j_blk (pc' := 27) (lv' := [(0, .ref a0), (1, .int p1), (2, .int x25_2)]) (st' := [.ref a0, .int x25_2]) E b_c2_play_25_2 rfl ?_
    replace hF := ocl_at hF
    obtain ⟨hc, hF⟩ := hF
    replace hF := obd_at hF
    obtain ⟨v9, he8, hF⟩ := hF
    refine j_callv [] [.int x25_2] E w_RX2_46 (hroom 0 1 (by decide) (by decide)) hAA (c2_matches _ κ A _ _  he8) (fun _ h => h) (fun _ _ _ h _ _ => h) (fun _ h => j_recv E h hc rfl) rfl rfl (Nat.le_of_ble_eq_true rfl) d_c2_play_27 ⟨Nat.zero_le _, Nat.zero_le _⟩ ?_
    refine j_icmp_ge (tgt := 90) E d_c2_play_30 (by decide) (fun h10 => ?_) (fun h10 => ?_)
    · replace hF := g_t hF h10
      refine j_lv [] rfl ?_
      exact hO _ (g_inj hF)
    · replace hF := g_f hF h10
      refine j_blk (pc' := 38) (lv' := [(0, .ref a0), (1, .int p1), (2, .int x25_2)]) (st' := [.int ((p1 >>> (x25_2 &&& 31)) &&& (Int32.ofInt 1))]) E b_c2_play_33_5 rfl ?_
      refine j_if_eq (tgt := 64) E d_c2_play_38 (by decide) (fun h11 => ?_) (fun h11 => ?_)
      · replace hF := g_t hF h11
        refine j_blk (pc' := 65) (lv' := [(0, .ref a0), (1, .int p1), (2, .int x25_2)]) (st' := [.ref a0]) E b_c2_play_64_1 rfl ?_
        replace hF := obd_at hF
        obtain ⟨v12, ev12, hF⟩ := hF
        refine j_getf E fg_RX2_17 d_c2_play_65 ev12 ?_
        refine j_getsN E (kx_G E) n_471 d_c2_play_68 ?_
        refine j_blk (pc' := 72) (lv' := [(0, .ref a0), (1, .int p1), (2, .int x25_2)]) (st' := [.int x25_2, .ref (kG κ), v12]) E b_c2_play_71_1 rfl ?_
        replace hF := ogd_at hF
        obtain ⟨hi, hF⟩ := hF
        refine j_tld E (kx_TG E) d_c2_play_72 hi ?_
        replace hF := orf_at hF
        obtain ⟨b13, rfl, hF⟩ := hF
        refine j_blk (pc' := 74) (lv' := [(0, .ref a0), (1, .int p1), (2, .int x25_2)]) (st' := [.int (tbG x25_2.toNatClampNeg), .ref b13, .int (tbG x25_2.toNatClampNeg), .ref b13]) E b_c2_play_73_1 rfl ?_
        replace hF := obd_at hF
        obtain ⟨v14, ev14, hF⟩ := hF
        refine j_iald E d_c2_play_74 ev14 ?_
        refine j_blk (pc' := 76) (lv' := [(0, .ref a0), (1, .int p1), (2, .int x25_2)]) (st' := [.int (Int32.ofInt 1), .int v14, .int (tbG x25_2.toNatClampNeg), .ref b13]) E b_c2_play_75_1 rfl ?_
        refine j_getsN E (kx_L E) n_469 d_c2_play_76 ?_
        refine j_blk (pc' := 80) (lv' := [(0, .ref a0), (1, .int p1), (2, .int x25_2)]) (st' := [.int x25_2, .ref (kL κ), .int (Int32.ofInt 1), .int v14, .int (tbG x25_2.toNatClampNeg), .ref b13]) E b_c2_play_79_1 rfl ?_
        replace hF := ogd_at hF
        obtain ⟨hi, hF⟩ := hF
        refine j_tld E (kx_TL E) d_c2_play_80 hi ?_
        refine j_blk (pc' := 83) (lv' := [(0, .ref a0), (1, .int p1), (2, .int x25_2)]) (st' := [.int (v14 ||| ((Int32.ofInt 1) <<< ((tbL x25_2.toNatClampNeg) &&& 31))), .int (tbG x25_2.toNatClampNeg), .ref b13]) E b_c2_play_81_2 rfl ?_
        replace hF := obd_at hF
        obtain ⟨s15, es15, hF⟩ := hF
        refine j_iast E d_c2_play_83 es15 hAA ?_
        refine j_blk (pc' := 87) (lv' := [(2, .int (x25_2 + Int32.ofInt 1)), (0, .ref a0), (1, .int p1)]) (st' := []) E b_c2_play_84_1 rfl ?_
        refine j_goto (tgt := 25) E d_c2_play_87 (by decide) ?_
        refine j_lv [1, 2, 0] rfl ?_
        exact hI _ (g_inj hF)
      · replace hF := g_f hF h11
        refine j_blk (pc' := 42) (lv' := [(0, .ref a0), (1, .int p1), (2, .int x25_2)]) (st' := [.ref a0]) E b_c2_play_41_1 rfl ?_
        replace hF := obd_at hF
        obtain ⟨v16, ev16, hF⟩ := hF
        refine j_getf E fg_RX2_17 d_c2_play_42 ev16 ?_
        refine j_getsN E (kx_L E) n_469 d_c2_play_45 ?_
        refine j_blk (pc' := 49) (lv' := [(0, .ref a0), (1, .int p1), (2, .int x25_2)]) (st' := [.int x25_2, .ref (kL κ), v16]) E b_c2_play_48_1 rfl ?_
        replace hF := ogd_at hF
        obtain ⟨hi, hF⟩ := hF
        refine j_tld E (kx_TL E) d_c2_play_49 hi ?_
        replace hF := orf_at hF
        obtain ⟨b17, rfl, hF⟩ := hF
        refine j_blk (pc' := 51) (lv' := [(0, .ref a0), (1, .int p1), (2, .int x25_2)]) (st' := [.int (tbL x25_2.toNatClampNeg), .ref b17, .int (tbL x25_2.toNatClampNeg), .ref b17]) E b_c2_play_50_1 rfl ?_
        replace hF := obd_at hF
        obtain ⟨v18, ev18, hF⟩ := hF
        refine j_iald E d_c2_play_51 ev18 ?_
        refine j_blk (pc' := 53) (lv' := [(0, .ref a0), (1, .int p1), (2, .int x25_2)]) (st' := [.int (Int32.ofInt 1), .int v18, .int (tbL x25_2.toNatClampNeg), .ref b17]) E b_c2_play_52_1 rfl ?_
        refine j_getsN E (kx_G E) n_471 d_c2_play_53 ?_
        refine j_blk (pc' := 57) (lv' := [(0, .ref a0), (1, .int p1), (2, .int x25_2)]) (st' := [.int x25_2, .ref (kG κ), .int (Int32.ofInt 1), .int v18, .int (tbL x25_2.toNatClampNeg), .ref b17]) E b_c2_play_56_1 rfl ?_
        replace hF := ogd_at hF
        obtain ⟨hi, hF⟩ := hF
        refine j_tld E (kx_TG E) d_c2_play_57 hi ?_
        refine j_blk (pc' := 60) (lv' := [(0, .ref a0), (1, .int p1), (2, .int x25_2)]) (st' := [.int (v18 ||| ((Int32.ofInt 1) <<< ((tbG x25_2.toNatClampNeg) &&& 31))), .int (tbL x25_2.toNatClampNeg), .ref b17]) E b_c2_play_58_2 rfl ?_
        replace hF := obd_at hF
        obtain ⟨s19, es19, hF⟩ := hF
        refine j_iast E d_c2_play_60 es19 hAA ?_
        refine j_goto (tgt := 84) E d_c2_play_61 (by decide) ?_
        refine j_blk (pc' := 87) (lv' := [(2, .int (x25_2 + Int32.ofInt 1)), (0, .ref a0), (1, .int p1)]) (st' := []) E b_c2_play_84_1 rfl ?_
        refine j_goto (tgt := 25) E d_c2_play_87 (by decide) ?_
        refine j_lv [1, 2, 0] rfl ?_
        exact hI _ (g_inj hF)
  refine lpo7 FU (Int32.ofInt 0, t2) o7 ho7 ?_
  obtain ⟨t25, rfl⟩ : ∃ z, z = o7 := ⟨_, rfl⟩
  show J Γ 3 (HS κ A t25) 0 0 90 [] []
  have e : res = t25 := g_inj hF
  subst e
  exact j_vret E hQ d_c2_play_90 (fun _ h => h)
theorem b_c2_newcomerBeats_0_2 : bdec cX2_newcomerBeats 0 [.iconst 0, .istore_n 3] = true := by decide +kernel
theorem b_c2_newcomerBeats_2_2 : bdec cX2_newcomerBeats 2 [.iload_n 3, .iload_n 1] = true := by decide +kernel
theorem d_c2_newcomerBeats_4 : decode cX2_newcomerBeats 4 = .ok (.if_icmp .ge 32, 3) := by decide +kernel
theorem b_c2_newcomerBeats_7_5 : bdec cX2_newcomerBeats 7 [.iload_n 2, .iload_n 3, .ishr, .iconst 1, .iand] = true := by decide +kernel
theorem d_c2_newcomerBeats_12 : decode cX2_newcomerBeats 12 = .ok (.ifCond .eq 12, 3) := by decide +kernel
theorem b_c2_newcomerBeats_24_3 : bdec cX2_newcomerBeats 24 [.aload_n 0, .iload_n 3, .iload_n 1] = true := by decide +kernel
theorem d_c2_newcomerBeats_27 : decode cX2_newcomerBeats 27 = .ok (.invokevirtual 57, 3) := by decide +kernel
theorem b_c2_newcomerBeats_30_1 : bdec cX2_newcomerBeats 30 [.iinc 3 1] = true := by decide +kernel
theorem d_c2_newcomerBeats_33 : decode cX2_newcomerBeats 33 = .ok (.goto (-31), 3) := by decide +kernel
theorem b_c2_newcomerBeats_15_3 : bdec cX2_newcomerBeats 15 [.aload_n 0, .iload_n 1, .iload_n 3] = true := by decide +kernel
theorem d_c2_newcomerBeats_18 : decode cX2_newcomerBeats 18 = .ok (.invokevirtual 57, 3) := by decide +kernel
theorem d_c2_newcomerBeats_21 : decode cX2_newcomerBeats 21 = .ok (.goto 9, 3) := by decide +kernel
theorem d_c2_newcomerBeats_36 : decode cX2_newcomerBeats 36 = .ok (.return_, 1) := by decide +kernel
def f2_newcomerBeats_L2 (a0 : Nat) (p1 : Int32) (p2 : Int32) (w : Int32 × HM) : Option ((Int32 × HM) ⊕ (HM)) := match w with
  | (x2_3, s2) => if p1 ≤ x2_3 then (some (.inr s2)) else (if ((p2 >>> (x2_3 &&& 31)) &&& (Int32.ofInt 1)) = 0 then (ocl s2 a0 2 (obd (f2_win s2 a0 x2_3 p1) (fun s5 => some (.inl (x2_3 + Int32.ofInt 1, s5))))) else (ocl s2 a0 2 (obd (f2_win s2 a0 p1 x2_3) (fun s7 => some (.inl (x2_3 + Int32.ofInt 1, s7))))))
def f2_newcomerBeats (s0 : HM) (a0 : Nat) (p1 : Int32) (p2 : Int32) : Option (HM) := obd (iter (f2_newcomerBeats_L2 a0 p1 p2) FU (Int32.ofInt 0, s0)) (fun o1 => match o1 with | t2 => some t2)
set_option maxRecDepth 100000 in
set_option maxHeartbeats 4000000 in
theorem c2_newcomerBeats (l : Launch) (κ : KP) (A : Nat → Prop) (s0 : HM) (a0 : Nat) (p1 : Int32) (p2 : Int32) {res : HM} (hF : f2_newcomerBeats s0 a0 p1 p2 = some res) : Met l yX2_newcomerBeats (Cond.code yX2_newcomerBeats cX2_newcomerBeats 4 none :: WT) (rmL 1 0 0) (PP κ A [.ref a0, .int p1, .int p2] (HS κ A s0)) (QQ none (HS κ A res) A) 0 0 A := by
  refine met_of (own := RX2) (by decide) rfl (Nat.le_of_ble_eq_true rfl) ?_
  intro Γ E hQ hL hR hA hent hini
  have hAA : ∀ q, A q → jA Γ q := fun q h => by rw [hA]; exact h
  have hroom : ∀ (d mL : Nat) {mc ms : Nat}, d < 1 → mL ≤ 21 → (rmL d mc ms).frames + 1 ≤ (jR Γ).frames ∧ 8 + (mL + 11) + (rmL d mc ms).locals ≤ (jR Γ).locals := fun d mL mc ms h1 h2 => by rw [hR]; exact rmL_le h1 h2
  show J Γ 4 (HS κ A s0) 0 0 0 [(0, .ref a0), (1, .int p1), (2, .int p2)] []
  unfold f2_newcomerBeats at hF
  refine j_blk (pc' := 2) (lv' := [(3, .int (Int32.ofInt 0)), (0, .ref a0), (1, .int p1), (2, .int p2)]) (st' := []) E b_c2_newcomerBeats_0_2 rfl ?_
  refine j_lv [1, 2, 3, 0] rfl ?_
  replace hF := obd_at hF
  obtain ⟨o1, ho1, hF⟩ := hF
  have lpo1 : ∀ (fu : Nat) (w : Int32 × HM) (o : HM), iter (f2_newcomerBeats_L2 a0 p1 p2) fu w = some o → (fun (o : HM) => J Γ 4 (HS κ A o) 0 0 36 [] []) o → (fun (w : Int32 × HM) => J Γ 4 (HS κ A w.2) 0 0 2 [(0, .ref a0), (1, .int p1), (2, .int p2), (3, .int w.1)] []) w := by
    refine j_iter (P := fun (w : Int32 × HM) => J Γ 4 (HS κ A w.2) 0 0 2 [(0, .ref a0), (1, .int p1), (2, .int p2), (3, .int w.1)] []) (G := fun (o : HM) => J Γ 4 (HS κ A o) 0 0 36 [] []) ?_
    rintro ⟨x2_3, s2⟩ q hF hI hO
    show J Γ 4 (HS κ A s2) 0 0 2 [(0, .ref a0), (1, .int p1), (2, .int p2), (3, .int x2_3)] []
    unfold f2_newcomerBeats_L2 at hF
    refine j_blk (pc' := 4) (lv' := [(0, .ref a0), (1, .int p1), (2, .int p2), (3, .int x2_3)]) (st' := [.int p1, .int x2_3]) E b_c2_newcomerBeats_2_2 rfl ?_
    refine j_icmp_ge (tgt := 36) E d_c2_newcomerBeats_4 (by decide) (fun h2 => ?_) (fun h2 => ?_)
    · replace hF := g_t hF h2
      refine j_lv [] rfl ?_
      exact hO _ (g_inj hF)
    · replace hF := g_f hF h2
      refine j_blk (pc' := 12) (lv' := [(0, .ref a0), (1, .int p1), (2, .int p2), (3, .int x2_3)]) (st' := [.int ((p2 >>> (x2_3 &&& 31)) &&& (Int32.ofInt 1))]) E b_c2_newcomerBeats_7_5 rfl ?_
      refine j_if_eq (tgt := 24) E d_c2_newcomerBeats_12 (by decide) (fun h3 => ?_) (fun h3 => ?_)
      · replace hF := g_t hF h3
        refine j_blk (pc' := 27) (lv' := [(0, .ref a0), (1, .int p1), (2, .int p2), (3, .int x2_3)]) (st' := [.int p1, .int x2_3, .ref a0]) E b_c2_newcomerBeats_24_3 rfl ?_
        replace hF := ocl_at hF
        obtain ⟨hc, hF⟩ := hF
        replace hF := obd_at hF
        obtain ⟨s5, he4, hF⟩ := hF
        refine j_callv [.int x2_3, .int p1] [] E w_RX2_57 (hroom 0 3 (by decide) (by decide)) hAA (c2_win _ κ A _ _ _ _  he4) (fun _ h => h) (fun _ _ _ h _ _ => h) (fun _ h => j_recv E h hc rfl) rfl rfl (Nat.le_of_ble_eq_true rfl) d_c2_newcomerBeats_27 ⟨Nat.zero_le _, Nat.zero_le _⟩ ?_
        refine j_blk (pc' := 33) (lv' := [(3, .int (x2_3 + Int32.ofInt 1)), (0, .ref a0), (1, .int p1), (2, .int p2)]) (st' := []) E b_c2_newcomerBeats_30_1 rfl ?_
        refine j_goto (tgt := 2) E d_c2_newcomerBeats_33 (by decide) ?_
        refine j_lv [1, 2, 3, 0] rfl ?_
        exact hI _ (g_inj hF)
      · replace hF := g_f hF h3
        refine j_blk (pc' := 18) (lv' := [(0, .ref a0), (1, .int p1), (2, .int p2), (3, .int x2_3)]) (st' := [.int x2_3, .int p1, .ref a0]) E b_c2_newcomerBeats_15_3 rfl ?_
        replace hF := ocl_at hF
        obtain ⟨hc, hF⟩ := hF
        replace hF := obd_at hF
        obtain ⟨s7, he6, hF⟩ := hF
        refine j_callv [.int p1, .int x2_3] [] E w_RX2_57 (hroom 0 3 (by decide) (by decide)) hAA (c2_win _ κ A _ _ _ _  he6) (fun _ h => h) (fun _ _ _ h _ _ => h) (fun _ h => j_recv E h hc rfl) rfl rfl (Nat.le_of_ble_eq_true rfl) d_c2_newcomerBeats_18 ⟨Nat.zero_le _, Nat.zero_le _⟩ ?_
        refine j_goto (tgt := 30) E d_c2_newcomerBeats_21 (by decide) ?_
        refine j_blk (pc' := 33) (lv' := [(3, .int (x2_3 + Int32.ofInt 1)), (0, .ref a0), (1, .int p1), (2, .int p2)]) (st' := []) E b_c2_newcomerBeats_30_1 rfl ?_
        refine j_goto (tgt := 2) E d_c2_newcomerBeats_33 (by decide) ?_
        refine j_lv [1, 2, 3, 0] rfl ?_
        exact hI _ (g_inj hF)
  refine lpo1 FU (Int32.ofInt 0, s0) o1 ho1 ?_
  obtain ⟨t2, rfl⟩ : ∃ z, z = o1 := ⟨_, rfl⟩
  show J Γ 4 (HS κ A t2) 0 0 36 [] []
  have e : res = t2 := g_inj hF
  subst e
  exact j_vret E hQ d_c2_newcomerBeats_36 (fun _ h => h)
theorem b_c2_isRing_0_3 : bdec cX2_isRing 0 [.aload_n 0, .iload_n 1, .iload_n 2] = true := by decide +kernel
theorem d_c2_isRing_3 : decode cX2_isRing 3 = .ok (.invokevirtual 38, 3) := by decide +kernel
theorem b_c2_isRing_6_4 : bdec cX2_isRing 6 [.istore 4, .aload_n 0, .iload_n 2, .iload_n 3] = true := by decide +kernel
theorem d_c2_isRing_11 : decode cX2_isRing 11 = .ok (.invokevirtual 38, 3) := by decide +kernel
theorem b_c2_isRing_14_1 : bdec cX2_isRing 14 [.iload 4] = true := by decide +kernel
theorem d_c2_isRing_16 : decode cX2_isRing 16 = .ok (.if_icmp .ne 18, 3) := by decide +kernel
theorem b_c2_isRing_34_1 : bdec cX2_isRing 34 [.iconst 0] = true := by decide +kernel
theorem d_c2_isRing_35 : decode cX2_isRing 35 = .ok (.ireturn, 1) := by decide +kernel
theorem b_c2_isRing_19_3 : bdec cX2_isRing 19 [.aload_n 0, .iload_n 3, .iload_n 1] = true := by decide +kernel
theorem d_c2_isRing_22 : decode cX2_isRing 22 = .ok (.invokevirtual 38, 3) := by decide +kernel
theorem b_c2_isRing_25_1 : bdec cX2_isRing 25 [.iload 4] = true := by decide +kernel
theorem d_c2_isRing_27 : decode cX2_isRing 27 = .ok (.if_icmp .ne 7, 3) := by decide +kernel
theorem b_c2_isRing_30_1 : bdec cX2_isRing 30 [.iconst 1] = true := by decide +kernel
theorem d_c2_isRing_31 : decode cX2_isRing 31 = .ok (.goto 4, 3) := by decide +kernel
def f2_isRing (s0 : HM) (a0 : Nat) (p1 : Int32) (p2 : Int32) (p3 : Int32) : Option (Int32) := ocl s0 a0 2 (obd (f2_hasBeaten s0 a0 p1 p2) (fun v2 => ocl s0 a0 2 (obd (f2_hasBeaten s0 a0 p2 p3) (fun v4 => if v4 = v2 then (ocl s0 a0 2 (obd (f2_hasBeaten s0 a0 p3 p1) (fun v7 => if v7 = v2 then (some (Int32.ofInt 1)) else (some (Int32.ofInt 0))))) else (some (Int32.ofInt 0))))))
set_option maxRecDepth 100000 in
set_option maxHeartbeats 4000000 in
theorem c2_isRing (l : Launch) (κ : KP) (A : Nat → Prop) (s0 : HM) (a0 : Nat) (p1 : Int32) (p2 : Int32) (p3 : Int32) {res : Int32} (hF : f2_isRing s0 a0 p1 p2 p3 = some res) : Met l yX2_isRing (Cond.code yX2_isRing cX2_isRing 5 (some .boolean) :: WT) (rmL 1 0 0) (PP κ A [.ref a0, .int p1, .int p2, .int p3] (HS κ A s0)) (QQ (some (.int res)) (HS κ A s0) A) 0 0 A := by
  refine met_of (own := RX2) (by decide) rfl (Nat.le_of_ble_eq_true rfl) ?_
  intro Γ E hQ hL hR hA hent hini
  have hAA : ∀ q, A q → jA Γ q := fun q h => by rw [hA]; exact h
  have hroom : ∀ (d mL : Nat) {mc ms : Nat}, d < 1 → mL ≤ 21 → (rmL d mc ms).frames + 1 ≤ (jR Γ).frames ∧ 8 + (mL + 11) + (rmL d mc ms).locals ≤ (jR Γ).locals := fun d mL mc ms h1 h2 => by rw [hR]; exact rmL_le h1 h2
  show J Γ 5 (HS κ A s0) 0 0 0 [(0, .ref a0), (1, .int p1), (2, .int p2), (3, .int p3)] []
  unfold f2_isRing at hF
  refine j_blk (pc' := 3) (lv' := [(0, .ref a0), (1, .int p1), (2, .int p2), (3, .int p3)]) (st' := [.int p2, .int p1, .ref a0]) E b_c2_isRing_0_3 rfl ?_
  replace hF := ocl_at hF
  obtain ⟨hc, hF⟩ := hF
  replace hF := obd_at hF
  obtain ⟨v2, he1, hF⟩ := hF
  refine j_callv [.int p1, .int p2] [] E w_RX2_38 (hroom 0 3 (by decide) (by decide)) hAA (c2_hasBeaten _ κ A _ _ _ _  he1) (fun _ h => h) (fun _ _ _ h _ _ => h) (fun _ h => j_recv E h hc rfl) rfl rfl (Nat.le_of_ble_eq_true rfl) d_c2_isRing_3 ⟨Nat.zero_le _, Nat.zero_le _⟩ ?_
  refine j_blk (pc' := 11) (lv' := [(4, .int v2), (0, .ref a0), (1, .int p1), (2, .int p2), (3, .int p3)]) (st' := [.int p3, .int p2, .ref a0]) E b_c2_isRing_6_4 rfl ?_
  replace hF := ocl_at hF
  obtain ⟨hc, hF⟩ := hF
  replace hF := obd_at hF
  obtain ⟨v4, he3, hF⟩ := hF
  refine j_callv [.int p2, .int p3] [] E w_RX2_38 (hroom 0 3 (by decide) (by decide)) hAA (c2_hasBeaten _ κ A _ _ _ _  he3) (fun _ h => h) (fun _ _ _ h _ _ => h) (fun _ h => j_recv E h hc rfl) rfl rfl (Nat.le_of_ble_eq_true rfl) d_c2_isRing_11 ⟨Nat.zero_le _, Nat.zero_le _⟩ ?_
  refine j_blk (pc' := 16) (lv' := [(4, .int v2), (0, .ref a0), (1, .int p1), (2, .int p2), (3, .int p3)]) (st' := [.int v2, .int v4]) E b_c2_isRing_14_1 rfl ?_
  refine j_icmp_ne (tgt := 34) E d_c2_isRing_16 (by decide) (fun h5 => ?_) (fun h5 => ?_)
  · replace hF := g_f hF h5
    refine j_blk (pc' := 35) (lv' := [(4, .int v2), (0, .ref a0), (1, .int p1), (2, .int p2), (3, .int p3)]) (st' := [.int (Int32.ofInt 0)]) E b_c2_isRing_34_1 rfl ?_
    have e : res = Int32.ofInt 0 := g_inj hF
    subst e
    exact j_zret E hQ nb_0 d_c2_isRing_35 (fun _ h => h)
  · replace hF := g_t hF h5
    refine j_blk (pc' := 22) (lv' := [(4, .int v2), (0, .ref a0), (1, .int p1), (2, .int p2), (3, .int p3)]) (st' := [.int p1, .int p3, .ref a0]) E b_c2_isRing_19_3 rfl ?_
    replace hF := ocl_at hF
    obtain ⟨hc, hF⟩ := hF
    replace hF := obd_at hF
    obtain ⟨v7, he6, hF⟩ := hF
    refine j_callv [.int p3, .int p1] [] E w_RX2_38 (hroom 0 3 (by decide) (by decide)) hAA (c2_hasBeaten _ κ A _ _ _ _  he6) (fun _ h => h) (fun _ _ _ h _ _ => h) (fun _ h => j_recv E h hc rfl) rfl rfl (Nat.le_of_ble_eq_true rfl) d_c2_isRing_22 ⟨Nat.zero_le _, Nat.zero_le _⟩ ?_
    refine j_blk (pc' := 27) (lv' := [(4, .int v2), (0, .ref a0), (1, .int p1), (2, .int p2), (3, .int p3)]) (st' := [.int v2, .int v7]) E b_c2_isRing_25_1 rfl ?_
    refine j_icmp_ne (tgt := 34) E d_c2_isRing_27 (by decide) (fun h8 => ?_) (fun h8 => ?_)
    · replace hF := g_f hF h8
      refine j_blk (pc' := 35) (lv' := [(4, .int v2), (0, .ref a0), (1, .int p1), (2, .int p2), (3, .int p3)]) (st' := [.int (Int32.ofInt 0)]) E b_c2_isRing_34_1 rfl ?_
      have e : res = Int32.ofInt 0 := g_inj hF
      subst e
      exact j_zret E hQ nb_0 d_c2_isRing_35 (fun _ h => h)
    · replace hF := g_t hF h8
      refine j_blk (pc' := 31) (lv' := [(4, .int v2), (0, .ref a0), (1, .int p1), (2, .int p2), (3, .int p3)]) (st' := [.int (Int32.ofInt 1)]) E b_c2_isRing_30_1 rfl ?_
      refine j_goto (tgt := 35) E d_c2_isRing_31 (by decide) ?_
      have e : res = Int32.ofInt 1 := g_inj hF
      subst e
      exact j_zret E hQ nb_1 d_c2_isRing_35 (fun _ h => h)
theorem b_c2_counting_0_4 : bdec cX2_counting 0 [.iconst 0, .istore_n 1, .iconst 0, .istore_n 2] = true := by decide +kernel
theorem b_c2_counting_4_2 : bdec cX2_counting 4 [.iload_n 2, .aload_n 0] = true := by decide +kernel
theorem d_c2_counting_6 : decode cX2_counting 6 = .ok (.getfield 21, 3) := by decide +kernel
theorem d_c2_counting_9 : decode cX2_counting 9 = .ok (.if_icmp .ge 36, 3) := by decide +kernel
theorem b_c2_counting_12_1 : bdec cX2_counting 12 [.aload_n 0] = true := by decide +kernel
theorem d_c2_counting_13 : decode cX2_counting 13 = .ok (.getfield 11, 3) := by decide +kernel
theorem b_c2_counting_16_1 : bdec cX2_counting 16 [.iload_n 2] = true := by decide +kernel
theorem d_c2_counting_17 : decode cX2_counting 17 = .ok (.aaload, 1) := by decide +kernel
theorem b_c2_counting_18_1 : bdec cX2_counting 18 [.aload_n 0] = true := by decide +kernel
theorem d_c2_counting_19 : decode cX2_counting 19 = .ok (.getfield 17, 3) := by decide +kernel
theorem b_c2_counting_22_1 : bdec cX2_counting 22 [.iload_n 2] = true := by decide +kernel
theorem d_c2_counting_23 : decode cX2_counting 23 = .ok (.iaload, 1) := by decide +kernel
theorem d_c2_counting_24 : decode cX2_counting 24 = .ok (.invokestatic 62, 3) := by decide +kernel
theorem d_c2_counting_27 : decode cX2_counting 27 = .ok (.invokevirtual 68, 3) := by decide +kernel
theorem d_c2_counting_30 : decode cX2_counting 30 = .ok (.ifCond .eq 9, 3) := by decide +kernel
theorem b_c2_counting_39_1 : bdec cX2_counting 39 [.iinc 2 1] = true := by decide +kernel
theorem d_c2_counting_42 : decode cX2_counting 42 = .ok (.goto (-38), 3) := by decide +kernel
theorem b_c2_counting_33_7 : bdec cX2_counting 33 [.iload_n 1, .iconst 1, .iload_n 2, .ishl, .ior, .istore_n 1, .iinc 2 1] = true := by decide +kernel
theorem b_c2_counting_45_1 : bdec cX2_counting 45 [.iload_n 1] = true := by decide +kernel
theorem d_c2_counting_46 : decode cX2_counting 46 = .ok (.ireturn, 1) := by decide +kernel
def f2_counting_L4 (s0 : HM) (a0 : Nat) (w : Int32 × Int32) : Option ((Int32 × Int32) ⊕ (Int32)) := match w with
  | (x4_1, x4_2) => obd (hfi s0 [2] 2 a0) (fun v2 => if v2 ≤ x4_2 then (some (.inr x4_1)) else (obd (hfld s0 [2] 0 a0) (fun v4 => orf v4 (fun b5 => obd (hrld s0 b5 x4_2) (fun v6 => obd (hfld s0 [2] 1 a0) (fun v7 => orf v7 (fun b8 => obd (hald s0 b8 x4_2) (fun v9 => orf v6 (fun b10 => obd (fJ6_bitCount_0f7a4 v9) (fun v12 => obd (v_countsWith s0 b10 v12) (fun v13 => if v13 = 0 then (some (.inl (x4_1, x4_2 + Int32.ofInt 1))) else (some (.inl (x4_1 ||| ((Int32.ofInt 1) <<< (x4_2 &&& 31)), x4_2 + Int32.ofInt 1))))))))))))))
def f2_counting (s0 : HM) (a0 : Nat) : Option (Int32) := obd (iter (f2_counting_L4 s0 a0) FU (Int32.ofInt 0, Int32.ofInt 0)) (fun o1 => match o1 with | e4_1 => some e4_1)
set_option maxRecDepth 100000 in
set_option maxHeartbeats 4000000 in
theorem c2_counting (l : Launch) (κ : KP) (A : Nat → Prop) (s0 : HM) (a0 : Nat) {res : Int32} (hF : f2_counting s0 a0 = some res) : Met l yX2_counting (Cond.code yX2_counting cX2_counting 3 (some .int) :: WT) (rmL 2 0 0) (PP κ A [.ref a0] (HS κ A s0)) (QQ (some (.int res)) (HS κ A s0) A) 0 0 A := by
  refine met_of (own := RX2) (by decide) rfl (Nat.le_of_ble_eq_true rfl) ?_
  intro Γ E hQ hL hR hA hent hini
  have hAA : ∀ q, A q → jA Γ q := fun q h => by rw [hA]; exact h
  have hroom : ∀ (d mL : Nat) {mc ms : Nat}, d < 2 → mL ≤ 21 → (rmL d mc ms).frames + 1 ≤ (jR Γ).frames ∧ 8 + (mL + 11) + (rmL d mc ms).locals ≤ (jR Γ).locals := fun d mL mc ms h1 h2 => by rw [hR]; exact rmL_le h1 h2
  show J Γ 3 (HS κ A s0) 0 0 0 [(0, .ref a0)] []
  unfold f2_counting at hF
  refine j_blk (pc' := 4) (lv' := [(2, .int (Int32.ofInt 0)), (1, .int (Int32.ofInt 0)), (0, .ref a0)]) (st' := []) E b_c2_counting_0_4 rfl ?_
  refine j_lv [2, 1, 0] rfl ?_
  replace hF := obd_at hF
  obtain ⟨o1, ho1, hF⟩ := hF
  have lpo1 : ∀ (fu : Nat) (w : Int32 × Int32) (o : Int32), iter (f2_counting_L4 s0 a0) fu w = some o → (fun (o : Int32) => J Γ 3 (HS κ A s0) 0 0 45 [(1, .int o)] []) o → (fun (w : Int32 × Int32) => J Γ 3 (HS κ A s0) 0 0 4 [(0, .ref a0), (1, .int w.1), (2, .int w.2)] []) w := by
    refine j_iter (P := fun (w : Int32 × Int32) => J Γ 3 (HS κ A s0) 0 0 4 [(0, .ref a0), (1, .int w.1), (2, .int w.2)] []) (G := fun (o : Int32) => J Γ 3 (HS κ A s0) 0 0 45 [(1, .int o)] []) ?_
    rintro ⟨x4_1, x4_2⟩ q hF hI hO
    show J Γ 3 (HS κ A s0) 0 0 4 [(0, .ref a0), (1, .int x4_1), (2, .int x4_2)] []
    unfold f2_counting_L4 at hF
    refine j_blk (pc' := 6) (lv' := [(0, .ref a0), (1, .int x4_1), (2, .int x4_2)]) (st' := [.ref a0, .int x4_2]) E b_c2_counting_4_2 rfl ?_
    replace hF := obd_at hF
    obtain ⟨v2, ev2, hF⟩ := hF
    refine j_getI E fg_RX2_21 d_c2_counting_6 ev2 ?_
    refine j_icmp_ge (tgt := 45) E d_c2_counting_9 (by decide) (fun h3 => ?_) (fun h3 => ?_)
    · replace hF := g_t hF h3
      refine j_lv [1] rfl ?_
      exact hO _ (g_inj hF)
    · replace hF := g_f hF h3
      refine j_blk (pc' := 13) (lv' := [(0, .ref a0), (1, .int x4_1), (2, .int x4_2)]) (st' := [.ref a0]) E b_c2_counting_12_1 rfl ?_
      replace hF := obd_at hF
      obtain ⟨v4, ev4, hF⟩ := hF
      refine j_getf E fg_RX2_11 d_c2_counting_13 ev4 ?_
      refine j_blk (pc' := 17) (lv' := [(0, .ref a0), (1, .int x4_1), (2, .int x4_2)]) (st' := [.int x4_2, v4]) E b_c2_counting_16_1 rfl ?_
      replace hF := orf_at hF
      obtain ⟨b5, rfl, hF⟩ := hF
      replace hF := obd_at hF
      obtain ⟨v6, ev6, hF⟩ := hF
      refine j_rald E d_c2_counting_17 ev6 ?_
      refine j_blk (pc' := 19) (lv' := [(0, .ref a0), (1, .int x4_1), (2, .int x4_2)]) (st' := [.ref a0, v6]) E b_c2_counting_18_1 rfl ?_
      replace hF := obd_at hF
      obtain ⟨v7, ev7, hF⟩ := hF
      refine j_getf E fg_RX2_17 d_c2_counting_19 ev7 ?_
      refine j_blk (pc' := 23) (lv' := [(0, .ref a0), (1, .int x4_1), (2, .int x4_2)]) (st' := [.int x4_2, v7, v6]) E b_c2_counting_22_1 rfl ?_
      replace hF := orf_at hF
      obtain ⟨b8, rfl, hF⟩ := hF
      replace hF := obd_at hF
      obtain ⟨v9, ev9, hF⟩ := hF
      refine j_iald E d_c2_counting_23 ev9 ?_
      replace hF := orf_at hF
      obtain ⟨b10, rfl, hF⟩ := hF
      replace hF := obd_at hF
      obtain ⟨v12, he11, hF⟩ := hF
      refine j_calls [.int v9] [.ref b10] E w_RX2_62 (hroom 0 1 (by decide) (by decide)) hAA (kJ6_bitCount_0f7a4 _ κ A (HS κ A s0) _  he11) (fun _ h => h) (fun _ _ _ h _ _ => h) rfl rfl (Nat.le_of_ble_eq_true rfl) d_c2_counting_24 ⟨Nat.zero_le _, Nat.zero_le _⟩ ?_
      replace hF := obd_at hF
      obtain ⟨v13, ev13, hF⟩ := hF
      refine jv_RX2_68 E hR (by decide) hAA ev13 d_c2_counting_27 (Nat.le_of_ble_eq_true rfl) ⟨Nat.zero_le _, Nat.zero_le _⟩ ?_
      refine j_if_eq (tgt := 39) E d_c2_counting_30 (by decide) (fun h14 => ?_) (fun h14 => ?_)
      · replace hF := g_t hF h14
        refine j_blk (pc' := 42) (lv' := [(2, .int (x4_2 + Int32.ofInt 1)), (0, .ref a0), (1, .int x4_1)]) (st' := []) E b_c2_counting_39_1 rfl ?_
        refine j_goto (tgt := 4) E d_c2_counting_42 (by decide) ?_
        refine j_lv [1, 2, 0] rfl ?_
        exact hI _ (g_inj hF)
      · replace hF := g_f hF h14
        refine j_blk (pc' := 42) (lv' := [(2, .int (x4_2 + Int32.ofInt 1)), (1, .int (x4_1 ||| ((Int32.ofInt 1) <<< (x4_2 &&& 31)))), (0, .ref a0)]) (st' := []) E b_c2_counting_33_7 rfl ?_
        refine j_goto (tgt := 4) E d_c2_counting_42 (by decide) ?_
        refine j_lv [2, 1, 0] rfl ?_
        exact hI _ (g_inj hF)
  refine lpo1 FU (Int32.ofInt 0, Int32.ofInt 0) o1 ho1 ?_
  obtain ⟨e4_1, rfl⟩ : ∃ z, z = o1 := ⟨_, rfl⟩
  show J Γ 3 (HS κ A s0) 0 0 45 [(1, .int e4_1)] []
  refine j_blk (pc' := 46) (lv' := [(1, .int e4_1)]) (st' := [.int e4_1]) E b_c2_counting_45_1 rfl ?_
  have e : res = e4_1 := g_inj hF
  subst e
  exact j_iret E hQ d_c2_counting_46 (fun _ h => h)
theorem d_c2_costOfTurn_0 : decode cX2_costOfTurn 0 = .ok (.getstatic 32, 3) := by decide +kernel
theorem b_c2_costOfTurn_3_1 : bdec cX2_costOfTurn 3 [.iload_n 1] = true := by decide +kernel
theorem d_c2_costOfTurn_4 : decode cX2_costOfTurn 4 = .ok (.iaload, 1) := by decide +kernel
theorem b_c2_costOfTurn_5_1 : bdec cX2_costOfTurn 5 [.istore_n 2] = true := by decide +kernel
theorem d_c2_costOfTurn_6 : decode cX2_costOfTurn 6 = .ok (.getstatic 35, 3) := by decide +kernel
theorem b_c2_costOfTurn_9_1 : bdec cX2_costOfTurn 9 [.iload_n 1] = true := by decide +kernel
theorem d_c2_costOfTurn_10 : decode cX2_costOfTurn 10 = .ok (.iaload, 1) := by decide +kernel
theorem b_c2_costOfTurn_11_2 : bdec cX2_costOfTurn 11 [.istore_n 3, .aload_n 0] = true := by decide +kernel
theorem d_c2_costOfTurn_13 : decode cX2_costOfTurn 13 = .ok (.getfield 11, 3) := by decide +kernel
theorem b_c2_costOfTurn_16_3 : bdec cX2_costOfTurn 16 [.aload_n 0, .iload_n 2, .iload_n 3] = true := by decide +kernel
theorem d_c2_costOfTurn_19 : decode cX2_costOfTurn 19 = .ok (.invokevirtual 38, 3) := by decide +kernel
theorem d_c2_costOfTurn_22 : decode cX2_costOfTurn 22 = .ok (.ifCond .eq 7, 3) := by decide +kernel
theorem b_c2_costOfTurn_29_1 : bdec cX2_costOfTurn 29 [.iload_n 3] = true := by decide +kernel
theorem d_c2_costOfTurn_30 : decode cX2_costOfTurn 30 = .ok (.aaload, 1) := by decide +kernel
theorem d_c2_costOfTurn_31 : decode cX2_costOfTurn 31 = .ok (.invokevirtual 42, 3) := by decide +kernel
theorem d_c2_costOfTurn_34 : decode cX2_costOfTurn 34 = .ok (.ireturn, 1) := by decide +kernel
theorem b_c2_costOfTurn_25_1 : bdec cX2_costOfTurn 25 [.iload_n 2] = true := by decide +kernel
theorem d_c2_costOfTurn_26 : decode cX2_costOfTurn 26 = .ok (.goto 4, 3) := by decide +kernel
def f2_costOfTurn (s0 : HM) (a0 : Nat) (p1 : Int32) : Option (Int32) := ogd (inb p1 28) (ogd (inb p1 28) (obd (hfld s0 [2] 0 a0) (fun v1 => orf v1 (fun b2 => ocl s0 a0 2 (obd (f2_hasBeaten s0 a0 (tbL p1.toNatClampNeg) (tbG p1.toNatClampNeg)) (fun v4 => if v4 = 0 then (obd (hrld s0 b2 (tbG p1.toNatClampNeg)) (fun v6 => orf v6 (fun b7 => obd (v_cost s0 b7) (fun v8 => some v8)))) else (obd (hrld s0 b2 (tbL p1.toNatClampNeg)) (fun v9 => orf v9 (fun b10 => obd (v_cost s0 b10) (fun v11 => some v11))))))))))
set_option maxRecDepth 100000 in
set_option maxHeartbeats 4000000 in
theorem c2_costOfTurn (l : Launch) (κ : KP) (A : Nat → Prop) (s0 : HM) (a0 : Nat) (p1 : Int32) {res : Int32} (hF : f2_costOfTurn s0 a0 p1 = some res) : Met l yX2_costOfTurn (Cond.code yX2_costOfTurn cX2_costOfTurn 4 (some .int) :: WT) (rmL 3 0 0) (PP κ A [.ref a0, .int p1] (HS κ A s0)) (QQ (some (.int res)) (HS κ A s0) A) 0 0 A := by
  refine met_of (own := RX2) (by decide) rfl (Nat.le_of_ble_eq_true rfl) ?_
  intro Γ E hQ hL hR hA hent hini
  have hAA : ∀ q, A q → jA Γ q := fun q h => by rw [hA]; exact h
  have hroom : ∀ (d mL : Nat) {mc ms : Nat}, d < 3 → mL ≤ 21 → (rmL d mc ms).frames + 1 ≤ (jR Γ).frames ∧ 8 + (mL + 11) + (rmL d mc ms).locals ≤ (jR Γ).locals := fun d mL mc ms h1 h2 => by rw [hR]; exact rmL_le h1 h2
  show J Γ 4 (HS κ A s0) 0 0 0 [(0, .ref a0), (1, .int p1)] []
  unfold f2_costOfTurn at hF
  refine j_getsN E (kx_L E) n_469 d_c2_costOfTurn_0 ?_
  refine j_blk (pc' := 4) (lv' := [(0, .ref a0), (1, .int p1)]) (st' := [.int p1, .ref (kL κ)]) E b_c2_costOfTurn_3_1 rfl ?_
  replace hF := ogd_at hF
  obtain ⟨hi, hF⟩ := hF
  refine j_tld E (kx_TL E) d_c2_costOfTurn_4 hi ?_
  refine j_blk (pc' := 6) (lv' := [(2, .int (tbL p1.toNatClampNeg)), (0, .ref a0), (1, .int p1)]) (st' := []) E b_c2_costOfTurn_5_1 rfl ?_
  refine j_getsN E (kx_G E) n_471 d_c2_costOfTurn_6 ?_
  refine j_blk (pc' := 10) (lv' := [(2, .int (tbL p1.toNatClampNeg)), (0, .ref a0), (1, .int p1)]) (st' := [.int p1, .ref (kG κ)]) E b_c2_costOfTurn_9_1 rfl ?_
  replace hF := ogd_at hF
  obtain ⟨hi, hF⟩ := hF
  refine j_tld E (kx_TG E) d_c2_costOfTurn_10 hi ?_
  refine j_blk (pc' := 13) (lv' := [(3, .int (tbG p1.toNatClampNeg)), (2, .int (tbL p1.toNatClampNeg)), (0, .ref a0), (1, .int p1)]) (st' := [.ref a0]) E b_c2_costOfTurn_11_2 rfl ?_
  replace hF := obd_at hF
  obtain ⟨v1, ev1, hF⟩ := hF
  refine j_getf E fg_RX2_11 d_c2_costOfTurn_13 ev1 ?_
  refine j_blk (pc' := 19) (lv' := [(3, .int (tbG p1.toNatClampNeg)), (2, .int (tbL p1.toNatClampNeg)), (0, .ref a0), (1, .int p1)]) (st' := [.int (tbG p1.toNatClampNeg), .int (tbL p1.toNatClampNeg), .ref a0, v1]) E b_c2_costOfTurn_16_3 rfl ?_
  replace hF := orf_at hF
  obtain ⟨b2, rfl, hF⟩ := hF
  replace hF := ocl_at hF
  obtain ⟨hc, hF⟩ := hF
  replace hF := obd_at hF
  obtain ⟨v4, he3, hF⟩ := hF
  refine j_callv [.int (tbL p1.toNatClampNeg), .int (tbG p1.toNatClampNeg)] [.ref b2] E w_RX2_38 (hroom 0 3 (by decide) (by decide)) hAA (c2_hasBeaten _ κ A _ _ _ _  he3) (fun _ h => h) (fun _ _ _ h _ _ => h) (fun _ h => j_recv E h hc rfl) rfl rfl (Nat.le_of_ble_eq_true rfl) d_c2_costOfTurn_19 ⟨Nat.zero_le _, Nat.zero_le _⟩ ?_
  refine j_if_eq (tgt := 29) E d_c2_costOfTurn_22 (by decide) (fun h5 => ?_) (fun h5 => ?_)
  · replace hF := g_t hF h5
    refine j_blk (pc' := 30) (lv' := [(3, .int (tbG p1.toNatClampNeg)), (2, .int (tbL p1.toNatClampNeg)), (0, .ref a0), (1, .int p1)]) (st' := [.int (tbG p1.toNatClampNeg), .ref b2]) E b_c2_costOfTurn_29_1 rfl ?_
    replace hF := obd_at hF
    obtain ⟨v6, ev6, hF⟩ := hF
    refine j_rald E d_c2_costOfTurn_30 ev6 ?_
    replace hF := orf_at hF
    obtain ⟨b7, rfl, hF⟩ := hF
    replace hF := obd_at hF
    obtain ⟨v8, ev8, hF⟩ := hF
    refine jv_RX2_42 E hR (by decide) hAA ev8 d_c2_costOfTurn_31 (Nat.le_of_ble_eq_true rfl) ⟨Nat.zero_le _, Nat.zero_le _⟩ ?_
    have e : res = v8 := g_inj hF
    subst e
    exact j_iret E hQ d_c2_costOfTurn_34 (fun _ h => h)
  · replace hF := g_f hF h5
    refine j_blk (pc' := 26) (lv' := [(3, .int (tbG p1.toNatClampNeg)), (2, .int (tbL p1.toNatClampNeg)), (0, .ref a0), (1, .int p1)]) (st' := [.int (tbL p1.toNatClampNeg), .ref b2]) E b_c2_costOfTurn_25_1 rfl ?_
    refine j_goto (tgt := 30) E d_c2_costOfTurn_26 (by decide) ?_
    replace hF := obd_at hF
    obtain ⟨v9, ev9, hF⟩ := hF
    refine j_rald E d_c2_costOfTurn_30 ev9 ?_
    replace hF := orf_at hF
    obtain ⟨b10, rfl, hF⟩ := hF
    replace hF := obd_at hF
    obtain ⟨v11, ev11, hF⟩ := hF
    refine jv_RX2_42 E hR (by decide) hAA ev11 d_c2_costOfTurn_31 (Nat.le_of_ble_eq_true rfl) ⟨Nat.zero_le _, Nat.zero_le _⟩ ?_
    have e : res = v11 := g_inj hF
    subst e
    exact j_iret E hQ d_c2_costOfTurn_34 (fun _ h => h)
theorem b_c2_playSeason_0_4 : bdec cX2_playSeason 0 [.iload_n 1, .istore_n 2, .iconst 0, .istore_n 3] = true := by decide +kernel
theorem b_c2_playSeason_4_2 : bdec cX2_playSeason 4 [.iload_n 3, .aload_n 0] = true := by decide +kernel
theorem d_c2_playSeason_6 : decode cX2_playSeason 6 = .ok (.getfield 21, 3) := by decide +kernel
theorem d_c2_playSeason_9 : decode cX2_playSeason 9 = .ok (.if_icmp .ge 88, 3) := by decide +kernel
theorem b_c2_playSeason_12_4 : bdec cX2_playSeason 12 [.iload_n 3, .iconst 1, .iadd, .istore 4] = true := by decide +kernel
theorem b_c2_playSeason_17_2 : bdec cX2_playSeason 17 [.iload 4, .aload_n 0] = true := by decide +kernel
theorem d_c2_playSeason_20 : decode cX2_playSeason 20 = .ok (.getfield 21, 3) := by decide +kernel
theorem d_c2_playSeason_23 : decode cX2_playSeason 23 = .ok (.if_icmp .ge 68, 3) := by decide +kernel
theorem b_c2_playSeason_26_1 : bdec cX2_playSeason 26 [.iload_n 2] = true := by decide +kernel
theorem d_c2_playSeason_27 : decode cX2_playSeason 27 = .ok (.ldc 49, 2) := by decide +kernel
theorem b_c2_playSeason_29_5 : bdec cX2_playSeason 29 [.imul, .sipush 12345, .iadd, .istore_n 2, .aload_n 0] = true := by decide +kernel
theorem d_c2_playSeason_36 : decode cX2_playSeason 36 = .ok (.getfield 11, 3) := by decide +kernel
theorem b_c2_playSeason_39_1 : bdec cX2_playSeason 39 [.iload_n 3] = true := by decide +kernel
theorem d_c2_playSeason_40 : decode cX2_playSeason 40 = .ok (.aaload, 1) := by decide +kernel
theorem d_c2_playSeason_41 : decode cX2_playSeason 41 = .ok (.invokevirtual 50, 3) := by decide +kernel
theorem b_c2_playSeason_44_3 : bdec cX2_playSeason 44 [.istore 5, .iload 5, .aload_n 0] = true := by decide +kernel
theorem d_c2_playSeason_49 : decode cX2_playSeason 49 = .ok (.getfield 11, 3) := by decide +kernel
theorem b_c2_playSeason_52_1 : bdec cX2_playSeason 52 [.iload 4] = true := by decide +kernel
theorem d_c2_playSeason_54 : decode cX2_playSeason 54 = .ok (.aaload, 1) := by decide +kernel
theorem d_c2_playSeason_55 : decode cX2_playSeason 55 = .ok (.invokevirtual 50, 3) := by decide +kernel
theorem b_c2_playSeason_58_2 : bdec cX2_playSeason 58 [.iadd, .iload_n 2] = true := by decide +kernel
theorem d_c2_playSeason_60 : decode cX2_playSeason 60 = .ok (.invokestatic 53, 3) := by decide +kernel
theorem b_c2_playSeason_63_1 : bdec cX2_playSeason 63 [.iload 5] = true := by decide +kernel
theorem d_c2_playSeason_65 : decode cX2_playSeason 65 = .ok (.if_icmp .ge 13, 3) := by decide +kernel
theorem b_c2_playSeason_78_3 : bdec cX2_playSeason 78 [.aload_n 0, .iload 4, .iload_n 3] = true := by decide +kernel
theorem d_c2_playSeason_82 : decode cX2_playSeason 82 = .ok (.invokevirtual 57, 3) := by decide +kernel
theorem b_c2_playSeason_85_1 : bdec cX2_playSeason 85 [.iinc 4 1] = true := by decide +kernel
theorem d_c2_playSeason_88 : decode cX2_playSeason 88 = .ok (.goto (-71), 3) := by decide +kernel
theorem b_c2_playSeason_68_3 : bdec cX2_playSeason 68 [.aload_n 0, .iload_n 3, .iload 4] = true := by decide +kernel
theorem d_c2_playSeason_72 : decode cX2_playSeason 72 = .ok (.invokevirtual 57, 3) := by decide +kernel
theorem d_c2_playSeason_75 : decode cX2_playSeason 75 = .ok (.goto 10, 3) := by decide +kernel
theorem b_c2_playSeason_91_1 : bdec cX2_playSeason 91 [.iinc 3 1] = true := by decide +kernel
theorem d_c2_playSeason_94 : decode cX2_playSeason 94 = .ok (.goto (-90), 3) := by decide +kernel
theorem b_c2_playSeason_97_1 : bdec cX2_playSeason 97 [.iload_n 2] = true := by decide +kernel
theorem d_c2_playSeason_98 : decode cX2_playSeason 98 = .ok (.ireturn, 1) := by decide +kernel
def f2_playSeason_L17 (a0 : Nat) (x4_3 : Int32) (w : Int32 × Int32 × HM) : Option ((Int32 × Int32 × HM) ⊕ (Int32 × HM)) := match w with
  | (x17_2, x17_4, s17) => obd (hfi s17 [2] 2 a0) (fun v5 => if v5 ≤ x17_4 then (some (.inr (x17_2, s17))) else (obd (hfld s17 [2] 0 a0) (fun v7 => orf v7 (fun b8 => obd (hrld s17 b8 x4_3) (fun v9 => orf v9 (fun b10 => obd (v_skill s17 b10) (fun v11 => obd (hfld s17 [2] 0 a0) (fun v12 => orf v12 (fun b13 => obd (hrld s17 b13 x17_4) (fun v14 => orf v14 (fun b15 => obd (v_skill s17 b15) (fun v16 => obd (f2_drawBelow (v11 + v16) ((x17_2 * 1103515245) + ((Int16.ofInt 12345).toInt32))) (fun v18 => if v11 ≤ v18 then (ocl s17 a0 2 (obd (f2_win s17 a0 x17_4 x4_3) (fun s21 => some (.inl ((x17_2 * 1103515245) + ((Int16.ofInt 12345).toInt32), x17_4 + Int32.ofInt 1, s21))))) else (ocl s17 a0 2 (obd (f2_win s17 a0 x4_3 x17_4) (fun s23 => some (.inl ((x17_2 * 1103515245) + ((Int16.ofInt 12345).toInt32), x17_4 + Int32.ofInt 1, s23))))))))))))))))))
def f2_playSeason_L4 (a0 : Nat) (w : Int32 × Int32 × HM) : Option ((Int32 × Int32 × HM) ⊕ (Int32 × HM)) := match w with
  | (x4_2, x4_3, s4) => obd (hfi s4 [2] 2 a0) (fun v2 => if v2 ≤ x4_3 then (some (.inr (x4_2, s4))) else (obd (iter (f2_playSeason_L17 a0 x4_3) FU (x4_2, x4_3 + (Int32.ofInt 1), s4)) (fun o4 => match o4 with | (e17_2, t17) => some (.inl (e17_2, x4_3 + Int32.ofInt 1, t17)))))
def f2_playSeason (s0 : HM) (a0 : Nat) (p1 : Int32) : Option (Int32 × HM) := obd (iter (f2_playSeason_L4 a0) FU (p1, Int32.ofInt 0, s0)) (fun o1 => match o1 with | (e4_2, t4) => some (e4_2, t4))
set_option maxRecDepth 100000 in
set_option maxHeartbeats 4000000 in
theorem c2_playSeason (l : Launch) (κ : KP) (A : Nat → Prop) (s0 : HM) (a0 : Nat) (p1 : Int32) {res : Int32 × HM} (hF : f2_playSeason s0 a0 p1 = some res) : Met l yX2_playSeason (Cond.code yX2_playSeason cX2_playSeason 6 (some .int) :: WT) (rmL 3 0 0) (PP κ A [.ref a0, .int p1] (HS κ A s0)) (QQ (some (.int res.1)) (HS κ A res.2) A) 0 0 A := by
  refine met_of (own := RX2) (by decide) rfl (Nat.le_of_ble_eq_true rfl) ?_
  intro Γ E hQ hL hR hA hent hini
  have hAA : ∀ q, A q → jA Γ q := fun q h => by rw [hA]; exact h
  have hroom : ∀ (d mL : Nat) {mc ms : Nat}, d < 3 → mL ≤ 21 → (rmL d mc ms).frames + 1 ≤ (jR Γ).frames ∧ 8 + (mL + 11) + (rmL d mc ms).locals ≤ (jR Γ).locals := fun d mL mc ms h1 h2 => by rw [hR]; exact rmL_le h1 h2
  show J Γ 6 (HS κ A s0) 0 0 0 [(0, .ref a0), (1, .int p1)] []
  unfold f2_playSeason at hF
  refine j_blk (pc' := 4) (lv' := [(3, .int (Int32.ofInt 0)), (2, .int p1), (0, .ref a0), (1, .int p1)]) (st' := []) E b_c2_playSeason_0_4 rfl ?_
  refine j_lv [2, 1, 0] rfl ?_
  replace hF := obd_at hF
  obtain ⟨o1, ho1, hF⟩ := hF
  have lpo1 : ∀ (fu : Nat) (w : Int32 × Int32 × HM) (o : Int32 × HM), iter (f2_playSeason_L4 a0) fu w = some o → (fun (o : Int32 × HM) => J Γ 6 (HS κ A o.2) 0 0 97 [(2, .int o.1)] []) o → (fun (w : Int32 × Int32 × HM) => J Γ 6 (HS κ A w.2.2) 0 0 4 [(0, .ref a0), (2, .int w.1), (3, .int w.2.1)] []) w := by
    refine j_iter (P := fun (w : Int32 × Int32 × HM) => J Γ 6 (HS κ A w.2.2) 0 0 4 [(0, .ref a0), (2, .int w.1), (3, .int w.2.1)] []) (G := fun (o : Int32 × HM) => J Γ 6 (HS κ A o.2) 0 0 97 [(2, .int o.1)] []) ?_
    rintro ⟨x4_2, x4_3, s4⟩ q hF hI hO
    show J Γ 6 (HS κ A s4) 0 0 4 [(0, .ref a0), (2, .int x4_2), (3, .int x4_3)] []
    unfold f2_playSeason_L4 at hF
    refine j_blk (pc' := 6) (lv' := [(0, .ref a0), (2, .int x4_2), (3, .int x4_3)]) (st' := [.ref a0, .int x4_3]) E b_c2_playSeason_4_2 rfl ?_
    replace hF := obd_at hF
    obtain ⟨v2, ev2, hF⟩ := hF
    refine j_getI E fg_RX2_21 d_c2_playSeason_6 ev2 ?_
    refine j_icmp_ge (tgt := 97) E d_c2_playSeason_9 (by decide) (fun h3 => ?_) (fun h3 => ?_)
    · replace hF := g_t hF h3
      refine j_lv [1] rfl ?_
      exact hO _ (g_inj hF)
    · replace hF := g_f hF h3
      refine j_blk (pc' := 17) (lv' := [(4, .int (x4_3 + (Int32.ofInt 1))), (0, .ref a0), (2, .int x4_2), (3, .int x4_3)]) (st' := []) E b_c2_playSeason_12_4 rfl ?_
      refine j_lv [1, 2, 3, 0] rfl ?_
      replace hF := obd_at hF
      obtain ⟨o4, ho4, hF⟩ := hF
      have lpo4 : ∀ (fu : Nat) (w : Int32 × Int32 × HM) (o : Int32 × HM), iter (f2_playSeason_L17 a0 x4_3) fu w = some o → (fun (o : Int32 × HM) => J Γ 6 (HS κ A o.2) 0 0 91 [(0, .ref a0), (2, .int o.1), (3, .int x4_3)] []) o → (fun (w : Int32 × Int32 × HM) => J Γ 6 (HS κ A w.2.2) 0 0 17 [(0, .ref a0), (2, .int w.1), (3, .int x4_3), (4, .int w.2.1)] []) w := by
        refine j_iter (P := fun (w : Int32 × Int32 × HM) => J Γ 6 (HS κ A w.2.2) 0 0 17 [(0, .ref a0), (2, .int w.1), (3, .int x4_3), (4, .int w.2.1)] []) (G := fun (o : Int32 × HM) => J Γ 6 (HS κ A o.2) 0 0 91 [(0, .ref a0), (2, .int o.1), (3, .int x4_3)] []) ?_
        rintro ⟨x17_2, x17_4, s17⟩ q hF hI hO
        show J Γ 6 (HS κ A s17) 0 0 17 [(0, .ref a0), (2, .int x17_2), (3, .int x4_3), (4, .int x17_4)] []
        unfold f2_playSeason_L17 at hF
        refine j_blk (pc' := 20) (lv' := [(0, .ref a0), (2, .int x17_2), (3, .int x4_3), (4, .int x17_4)]) (st' := [.ref a0, .int x17_4]) E b_c2_playSeason_17_2 rfl ?_
        replace hF := obd_at hF
        obtain ⟨v5, ev5, hF⟩ := hF
        refine j_getI E fg_RX2_21 d_c2_playSeason_20 ev5 ?_
        refine j_icmp_ge (tgt := 91) E d_c2_playSeason_23 (by decide) (fun h6 => ?_) (fun h6 => ?_)
        · replace hF := g_t hF h6
          refine j_lv [0, 1, 2] rfl ?_
          exact hO _ (g_inj hF)
        · replace hF := g_f hF h6
          refine j_blk (pc' := 27) (lv' := [(0, .ref a0), (2, .int x17_2), (3, .int x4_3), (4, .int x17_4)]) (st' := [.int x17_2]) E b_c2_playSeason_26_1 rfl ?_
          refine j_ldc (x := 1103515245) E d_c2_playSeason_27 m_587 ?_
          refine j_blk (pc' := 36) (lv' := [(2, .int ((x17_2 * 1103515245) + ((Int16.ofInt 12345).toInt32))), (0, .ref a0), (3, .int x4_3), (4, .int x17_4)]) (st' := [.ref a0]) E b_c2_playSeason_29_5 rfl ?_
          replace hF := obd_at hF
          obtain ⟨v7, ev7, hF⟩ := hF
          refine j_getf E fg_RX2_11 d_c2_playSeason_36 ev7 ?_
          refine j_blk (pc' := 40) (lv' := [(2, .int ((x17_2 * 1103515245) + ((Int16.ofInt 12345).toInt32))), (0, .ref a0), (3, .int x4_3), (4, .int x17_4)]) (st' := [.int x4_3, v7]) E b_c2_playSeason_39_1 rfl ?_
          replace hF := orf_at hF
          obtain ⟨b8, rfl, hF⟩ := hF
          replace hF := obd_at hF
          obtain ⟨v9, ev9, hF⟩ := hF
          refine j_rald E d_c2_playSeason_40 ev9 ?_
          replace hF := orf_at hF
          obtain ⟨b10, rfl, hF⟩ := hF
          replace hF := obd_at hF
          obtain ⟨v11, ev11, hF⟩ := hF
          refine jv_RX2_50 E hR (by decide) hAA ev11 d_c2_playSeason_41 (Nat.le_of_ble_eq_true rfl) ⟨Nat.zero_le _, Nat.zero_le _⟩ ?_
          refine j_blk (pc' := 49) (lv' := [(5, .int v11), (2, .int ((x17_2 * 1103515245) + ((Int16.ofInt 12345).toInt32))), (0, .ref a0), (3, .int x4_3), (4, .int x17_4)]) (st' := [.ref a0, .int v11]) E b_c2_playSeason_44_3 rfl ?_
          replace hF := obd_at hF
          obtain ⟨v12, ev12, hF⟩ := hF
          refine j_getf E fg_RX2_11 d_c2_playSeason_49 ev12 ?_
          refine j_blk (pc' := 54) (lv' := [(5, .int v11), (2, .int ((x17_2 * 1103515245) + ((Int16.ofInt 12345).toInt32))), (0, .ref a0), (3, .int x4_3), (4, .int x17_4)]) (st' := [.int x17_4, v12, .int v11]) E b_c2_playSeason_52_1 rfl ?_
          replace hF := orf_at hF
          obtain ⟨b13, rfl, hF⟩ := hF
          replace hF := obd_at hF
          obtain ⟨v14, ev14, hF⟩ := hF
          refine j_rald E d_c2_playSeason_54 ev14 ?_
          replace hF := orf_at hF
          obtain ⟨b15, rfl, hF⟩ := hF
          replace hF := obd_at hF
          obtain ⟨v16, ev16, hF⟩ := hF
          refine jv_RX2_50 E hR (by decide) hAA ev16 d_c2_playSeason_55 (Nat.le_of_ble_eq_true rfl) ⟨Nat.zero_le _, Nat.zero_le _⟩ ?_
          refine j_blk (pc' := 60) (lv' := [(5, .int v11), (2, .int ((x17_2 * 1103515245) + ((Int16.ofInt 12345).toInt32))), (0, .ref a0), (3, .int x4_3), (4, .int x17_4)]) (st' := [.int ((x17_2 * 1103515245) + ((Int16.ofInt 12345).toInt32)), .int (v11 + v16)]) E b_c2_playSeason_58_2 rfl ?_
          replace hF := obd_at hF
          obtain ⟨v18, he17, hF⟩ := hF
          refine j_calls [.int (v11 + v16), .int ((x17_2 * 1103515245) + ((Int16.ofInt 12345).toInt32))] [] E w_RX2_53 (hroom 0 2 (by decide) (by decide)) hAA (c2_drawBelow _ κ A (HS κ A s17) _ _  he17) (fun _ h => h) (fun _ _ _ h _ _ => h) rfl rfl (Nat.le_of_ble_eq_true rfl) d_c2_playSeason_60 ⟨Nat.zero_le _, Nat.zero_le _⟩ ?_
          refine j_blk (pc' := 65) (lv' := [(5, .int v11), (2, .int ((x17_2 * 1103515245) + ((Int16.ofInt 12345).toInt32))), (0, .ref a0), (3, .int x4_3), (4, .int x17_4)]) (st' := [.int v11, .int v18]) E b_c2_playSeason_63_1 rfl ?_
          refine j_icmp_ge (tgt := 78) E d_c2_playSeason_65 (by decide) (fun h19 => ?_) (fun h19 => ?_)
          · replace hF := g_t hF h19
            refine j_blk (pc' := 82) (lv' := [(5, .int v11), (2, .int ((x17_2 * 1103515245) + ((Int16.ofInt 12345).toInt32))), (0, .ref a0), (3, .int x4_3), (4, .int x17_4)]) (st' := [.int x4_3, .int x17_4, .ref a0]) E b_c2_playSeason_78_3 rfl ?_
            replace hF := ocl_at hF
            obtain ⟨hc, hF⟩ := hF
            replace hF := obd_at hF
            obtain ⟨s21, he20, hF⟩ := hF
            refine j_callv [.int x17_4, .int x4_3] [] E w_RX2_57 (hroom 0 3 (by decide) (by decide)) hAA (c2_win _ κ A _ _ _ _  he20) (fun _ h => h) (fun _ _ _ h _ _ => h) (fun _ h => j_recv E h hc rfl) rfl rfl (Nat.le_of_ble_eq_true rfl) d_c2_playSeason_82 ⟨Nat.zero_le _, Nat.zero_le _⟩ ?_
            refine j_blk (pc' := 88) (lv' := [(4, .int (x17_4 + Int32.ofInt 1)), (5, .int v11), (2, .int ((x17_2 * 1103515245) + ((Int16.ofInt 12345).toInt32))), (0, .ref a0), (3, .int x4_3)]) (st' := []) E b_c2_playSeason_85_1 rfl ?_
            refine j_goto (tgt := 17) E d_c2_playSeason_88 (by decide) ?_
            refine j_lv [3, 2, 4, 0] rfl ?_
            exact hI _ (g_inj hF)
          · replace hF := g_f hF h19
            refine j_blk (pc' := 72) (lv' := [(5, .int v11), (2, .int ((x17_2 * 1103515245) + ((Int16.ofInt 12345).toInt32))), (0, .ref a0), (3, .int x4_3), (4, .int x17_4)]) (st' := [.int x17_4, .int x4_3, .ref a0]) E b_c2_playSeason_68_3 rfl ?_
            replace hF := ocl_at hF
            obtain ⟨hc, hF⟩ := hF
            replace hF := obd_at hF
            obtain ⟨s23, he22, hF⟩ := hF
            refine j_callv [.int x4_3, .int x17_4] [] E w_RX2_57 (hroom 0 3 (by decide) (by decide)) hAA (c2_win _ κ A _ _ _ _  he22) (fun _ h => h) (fun _ _ _ h _ _ => h) (fun _ h => j_recv E h hc rfl) rfl rfl (Nat.le_of_ble_eq_true rfl) d_c2_playSeason_72 ⟨Nat.zero_le _, Nat.zero_le _⟩ ?_
            refine j_goto (tgt := 85) E d_c2_playSeason_75 (by decide) ?_
            refine j_blk (pc' := 88) (lv' := [(4, .int (x17_4 + Int32.ofInt 1)), (5, .int v11), (2, .int ((x17_2 * 1103515245) + ((Int16.ofInt 12345).toInt32))), (0, .ref a0), (3, .int x4_3)]) (st' := []) E b_c2_playSeason_85_1 rfl ?_
            refine j_goto (tgt := 17) E d_c2_playSeason_88 (by decide) ?_
            refine j_lv [3, 2, 4, 0] rfl ?_
            exact hI _ (g_inj hF)
      refine lpo4 FU (x4_2, x4_3 + (Int32.ofInt 1), s4) o4 ho4 ?_
      obtain ⟨e17_2, t17⟩ := o4
      show J Γ 6 (HS κ A t17) 0 0 91 [(0, .ref a0), (2, .int e17_2), (3, .int x4_3)] []
      refine j_blk (pc' := 94) (lv' := [(3, .int (x4_3 + Int32.ofInt 1)), (0, .ref a0), (2, .int e17_2)]) (st' := []) E b_c2_playSeason_91_1 rfl ?_
      refine j_goto (tgt := 4) E d_c2_playSeason_94 (by decide) ?_
      refine j_lv [1, 2, 0] rfl ?_
      exact hI _ (g_inj hF)
  refine lpo1 FU (p1, Int32.ofInt 0, s0) o1 ho1 ?_
  obtain ⟨e4_2, t4⟩ := o1
  show J Γ 6 (HS κ A t4) 0 0 97 [(2, .int e4_2)] []
  refine j_blk (pc' := 98) (lv' := [(2, .int e4_2)]) (st' := [.int e4_2]) E b_c2_playSeason_97_1 rfl ?_
  have e : res = (e4_2, t4) := g_inj hF
  subst e
  exact j_iret E hQ d_c2_playSeason_98 (fun _ h => h)
theorem b_c2_weight_0_4 : bdec cX2_weight 0 [.lconst 1, .lstore_n 1, .iconst 0, .istore_n 3] = true := by decide +kernel
theorem b_c2_weight_4_2 : bdec cX2_weight 4 [.iload_n 3, .aload_n 0] = true := by decide +kernel
theorem d_c2_weight_6 : decode cX2_weight 6 = .ok (.invokevirtual 46, 3) := by decide +kernel
theorem d_c2_weight_9 : decode cX2_weight 9 = .ok (.if_icmp .ge 53, 3) := by decide +kernel
theorem d_c2_weight_12 : decode cX2_weight 12 = .ok (.getstatic 32, 3) := by decide +kernel
theorem b_c2_weight_15_1 : bdec cX2_weight 15 [.iload_n 3] = true := by decide +kernel
theorem d_c2_weight_16 : decode cX2_weight 16 = .ok (.iaload, 1) := by decide +kernel
theorem b_c2_weight_17_1 : bdec cX2_weight 17 [.istore 4] = true := by decide +kernel
theorem d_c2_weight_19 : decode cX2_weight 19 = .ok (.getstatic 35, 3) := by decide +kernel
theorem b_c2_weight_22_1 : bdec cX2_weight 22 [.iload_n 3] = true := by decide +kernel
theorem d_c2_weight_23 : decode cX2_weight 23 = .ok (.iaload, 1) := by decide +kernel
theorem b_c2_weight_24_3 : bdec cX2_weight 24 [.istore 5, .lload_n 1, .aload_n 0] = true := by decide +kernel
theorem d_c2_weight_28 : decode cX2_weight 28 = .ok (.getfield 11, 3) := by decide +kernel
theorem b_c2_weight_31_3 : bdec cX2_weight 31 [.aload_n 0, .iload 4, .iload 5] = true := by decide +kernel
theorem d_c2_weight_36 : decode cX2_weight 36 = .ok (.invokevirtual 38, 3) := by decide +kernel
theorem d_c2_weight_39 : decode cX2_weight 39 = .ok (.ifCond .eq 8, 3) := by decide +kernel
theorem d_c2_weight_49 : decode cX2_weight 49 = .ok (.aaload, 1) := by decide +kernel
theorem d_c2_weight_50 : decode cX2_weight 50 = .ok (.invokevirtual 50, 3) := by decide +kernel
theorem b_c2_weight_53_4 : bdec cX2_weight 53 [.i2l, .lmul, .lstore_n 1, .iinc 3 1] = true := by decide +kernel
theorem d_c2_weight_59 : decode cX2_weight 59 = .ok (.goto (-55), 3) := by decide +kernel
theorem b_c2_weight_47_1 : bdec cX2_weight 47 [.iload 5] = true := by decide +kernel
theorem b_c2_weight_42_1 : bdec cX2_weight 42 [.iload 4] = true := by decide +kernel
theorem d_c2_weight_44 : decode cX2_weight 44 = .ok (.goto 5, 3) := by decide +kernel
theorem b_c2_weight_62_1 : bdec cX2_weight 62 [.lload_n 1] = true := by decide +kernel
theorem d_c2_weight_63 : decode cX2_weight 63 = .ok (.lreturn, 1) := by decide +kernel
def f2_weight_K49 (s0 : HM) (a0 : Nat) (x4_3 : Int32) (k49_t0 : Int32) (k49_t1 : Value) (k49_t2 : Int64) : Option ((Int64 × Int32) ⊕ (Int64)) := orf k49_t1 (fun b9 => obd (hrld s0 b9 k49_t0) (fun v10 => orf v10 (fun b11 => obd (v_skill s0 b11) (fun v12 => some (.inl (k49_t2 * v12.toInt64, x4_3 + Int32.ofInt 1))))))
def f2_weight_L4 (s0 : HM) (a0 : Nat) (w : Int64 × Int32) : Option ((Int64 × Int32) ⊕ (Int64)) := match w with
  | (x4_1, x4_3) => ocl s0 a0 2 (obd (f2_matches s0 a0) (fun v3 => if v3 ≤ x4_3 then (some (.inr x4_1)) else (ogd (inb x4_3 28) (ogd (inb x4_3 28) (obd (hfld s0 [2] 0 a0) (fun v5 => orf v5 (fun b6 => ocl s0 a0 2 (obd (f2_hasBeaten s0 a0 (tbL x4_3.toNatClampNeg) (tbG x4_3.toNatClampNeg)) (fun v8 => if v8 = 0 then (f2_weight_K49 s0 a0 x4_3 (tbG x4_3.toNatClampNeg) (.ref b6 : Value) x4_1) else (f2_weight_K49 s0 a0 x4_3 (tbL x4_3.toNatClampNeg) (.ref b6 : Value) x4_1))))))))))
def f2_weight (s0 : HM) (a0 : Nat) : Option (Int64) := obd (iter (f2_weight_L4 s0 a0) FU (Int64.ofNat 1, Int32.ofInt 0)) (fun o1 => match o1 with | e4_1 => some e4_1)
set_option maxRecDepth 100000 in
set_option maxHeartbeats 4000000 in
theorem c2_weight (l : Launch) (κ : KP) (A : Nat → Prop) (s0 : HM) (a0 : Nat) {res : Int64} (hF : f2_weight s0 a0 = some res) : Met l yX2_weight (Cond.code yX2_weight cX2_weight 6 (some .long) :: WT) (rmL 3 0 0) (PP κ A [.ref a0] (HS κ A s0)) (QQ (some (.long res)) (HS κ A s0) A) 0 0 A := by
  refine met_of (own := RX2) (by decide) rfl (Nat.le_of_ble_eq_true rfl) ?_
  intro Γ E hQ hL hR hA hent hini
  have hAA : ∀ q, A q → jA Γ q := fun q h => by rw [hA]; exact h
  have hroom : ∀ (d mL : Nat) {mc ms : Nat}, d < 3 → mL ≤ 21 → (rmL d mc ms).frames + 1 ≤ (jR Γ).frames ∧ 8 + (mL + 11) + (rmL d mc ms).locals ≤ (jR Γ).locals := fun d mL mc ms h1 h2 => by rw [hR]; exact rmL_le h1 h2
  show J Γ 6 (HS κ A s0) 0 0 0 [(0, .ref a0)] []
  unfold f2_weight at hF
  refine j_blk (pc' := 4) (lv' := [(3, .int (Int32.ofInt 0)), (1, .long (Int64.ofNat 1)), (0, .ref a0)]) (st' := []) E b_c2_weight_0_4 rfl ?_
  refine j_lv [2, 1, 0] rfl ?_
  replace hF := obd_at hF
  obtain ⟨o1, ho1, hF⟩ := hF
  have lpo1 : ∀ (fu : Nat) (w : Int64 × Int32) (o : Int64), iter (f2_weight_L4 s0 a0) fu w = some o → (fun (o : Int64) => J Γ 6 (HS κ A s0) 0 0 62 [(1, .long o)] []) o → (fun (w : Int64 × Int32) => J Γ 6 (HS κ A s0) 0 0 4 [(0, .ref a0), (1, .long w.1), (3, .int w.2)] []) w := by
    refine j_iter (P := fun (w : Int64 × Int32) => J Γ 6 (HS κ A s0) 0 0 4 [(0, .ref a0), (1, .long w.1), (3, .int w.2)] []) (G := fun (o : Int64) => J Γ 6 (HS κ A s0) 0 0 62 [(1, .long o)] []) ?_
    rintro ⟨x4_1, x4_3⟩ q hF hI hO
    show J Γ 6 (HS κ A s0) 0 0 4 [(0, .ref a0), (1, .long x4_1), (3, .int x4_3)] []
    unfold f2_weight_L4 at hF
    refine j_blk (pc' := 6) (lv' := [(0, .ref a0), (1, .long x4_1), (3, .int x4_3)]) (st' := [.ref a0, .int x4_3]) E b_c2_weight_4_2 rfl ?_
    replace hF := ocl_at hF
    obtain ⟨hc, hF⟩ := hF
    replace hF := obd_at hF
    obtain ⟨v3, he2, hF⟩ := hF
    refine j_callv [] [.int x4_3] E w_RX2_46 (hroom 0 1 (by decide) (by decide)) hAA (c2_matches _ κ A _ _  he2) (fun _ h => h) (fun _ _ _ h _ _ => h) (fun _ h => j_recv E h hc rfl) rfl rfl (Nat.le_of_ble_eq_true rfl) d_c2_weight_6 ⟨Nat.zero_le _, Nat.zero_le _⟩ ?_
    refine j_icmp_ge (tgt := 62) E d_c2_weight_9 (by decide) (fun h4 => ?_) (fun h4 => ?_)
    · replace hF := g_t hF h4
      refine j_lv [1] rfl ?_
      exact hO _ (g_inj hF)
    · replace hF := g_f hF h4
      refine j_getsN E (kx_L E) n_469 d_c2_weight_12 ?_
      refine j_blk (pc' := 16) (lv' := [(0, .ref a0), (1, .long x4_1), (3, .int x4_3)]) (st' := [.int x4_3, .ref (kL κ)]) E b_c2_weight_15_1 rfl ?_
      replace hF := ogd_at hF
      obtain ⟨hi, hF⟩ := hF
      refine j_tld E (kx_TL E) d_c2_weight_16 hi ?_
      refine j_blk (pc' := 19) (lv' := [(4, .int (tbL x4_3.toNatClampNeg)), (0, .ref a0), (1, .long x4_1), (3, .int x4_3)]) (st' := []) E b_c2_weight_17_1 rfl ?_
      refine j_getsN E (kx_G E) n_471 d_c2_weight_19 ?_
      refine j_blk (pc' := 23) (lv' := [(4, .int (tbL x4_3.toNatClampNeg)), (0, .ref a0), (1, .long x4_1), (3, .int x4_3)]) (st' := [.int x4_3, .ref (kG κ)]) E b_c2_weight_22_1 rfl ?_
      replace hF := ogd_at hF
      obtain ⟨hi, hF⟩ := hF
      refine j_tld E (kx_TG E) d_c2_weight_23 hi ?_
      refine j_blk (pc' := 28) (lv' := [(5, .int (tbG x4_3.toNatClampNeg)), (4, .int (tbL x4_3.toNatClampNeg)), (0, .ref a0), (1, .long x4_1), (3, .int x4_3)]) (st' := [.ref a0, .long x4_1]) E b_c2_weight_24_3 rfl ?_
      replace hF := obd_at hF
      obtain ⟨v5, ev5, hF⟩ := hF
      refine j_getf E fg_RX2_11 d_c2_weight_28 ev5 ?_
      refine j_blk (pc' := 36) (lv' := [(5, .int (tbG x4_3.toNatClampNeg)), (4, .int (tbL x4_3.toNatClampNeg)), (0, .ref a0), (1, .long x4_1), (3, .int x4_3)]) (st' := [.int (tbG x4_3.toNatClampNeg), .int (tbL x4_3.toNatClampNeg), .ref a0, v5, .long x4_1]) E b_c2_weight_31_3 rfl ?_
      replace hF := orf_at hF
      obtain ⟨b6, rfl, hF⟩ := hF
      replace hF := ocl_at hF
      obtain ⟨hc, hF⟩ := hF
      replace hF := obd_at hF
      obtain ⟨v8, he7, hF⟩ := hF
      refine j_callv [.int (tbL x4_3.toNatClampNeg), .int (tbG x4_3.toNatClampNeg)] [.ref b6, .long x4_1] E w_RX2_38 (hroom 0 3 (by decide) (by decide)) hAA (c2_hasBeaten _ κ A _ _ _ _  he7) (fun _ h => h) (fun _ _ _ h _ _ => h) (fun _ h => j_recv E h hc rfl) rfl rfl (Nat.le_of_ble_eq_true rfl) d_c2_weight_36 ⟨Nat.zero_le _, Nat.zero_le _⟩ ?_
      have kp49 : ∀ (k49_t0 : Int32) (k49_t1 : Value) (k49_t2 : Int64), f2_weight_K49 s0 a0 x4_3 k49_t0 k49_t1 k49_t2 = some q → J Γ 6 (HS κ A s0) 0 0 49 [(0, .ref a0), (3, .int x4_3)] [.int k49_t0, k49_t1, .long k49_t2] := by
        intro k49_t0 k49_t1 k49_t2 hF
        unfold f2_weight_K49 at hF
        replace hF := orf_at hF
        obtain ⟨b9, rfl, hF⟩ := hF
        replace hF := obd_at hF
        obtain ⟨v10, ev10, hF⟩ := hF
        refine j_rald E d_c2_weight_49 ev10 ?_
        replace hF := orf_at hF
        obtain ⟨b11, rfl, hF⟩ := hF
        replace hF := obd_at hF
        obtain ⟨v12, ev12, hF⟩ := hF
        refine jv_RX2_50 E hR (by decide) hAA ev12 d_c2_weight_50 (Nat.le_of_ble_eq_true rfl) ⟨Nat.zero_le _, Nat.zero_le _⟩ ?_
        refine j_blk (pc' := 59) (lv' := [(3, .int (x4_3 + Int32.ofInt 1)), (1, .long (k49_t2 * v12.toInt64)), (0, .ref a0)]) (st' := []) E b_c2_weight_53_4 rfl ?_
        refine j_goto (tgt := 4) E d_c2_weight_59 (by decide) ?_
        refine j_lv [2, 1, 0] rfl ?_
        exact hI _ (g_inj hF)
      refine j_if_eq (tgt := 47) E d_c2_weight_39 (by decide) (fun h13 => ?_) (fun h13 => ?_)
      · replace hF := g_t hF h13
        refine j_blk (pc' := 49) (lv' := [(5, .int (tbG x4_3.toNatClampNeg)), (4, .int (tbL x4_3.toNatClampNeg)), (0, .ref a0), (1, .long x4_1), (3, .int x4_3)]) (st' := [.int (tbG x4_3.toNatClampNeg), .ref b6, .long x4_1]) E b_c2_weight_47_1 rfl ?_
        refine j_lv [2, 4] rfl ?_
        exact kp49 (tbG x4_3.toNatClampNeg) (.ref b6 : Value) x4_1 hF
      · replace hF := g_f hF h13
        refine j_blk (pc' := 44) (lv' := [(5, .int (tbG x4_3.toNatClampNeg)), (4, .int (tbL x4_3.toNatClampNeg)), (0, .ref a0), (1, .long x4_1), (3, .int x4_3)]) (st' := [.int (tbL x4_3.toNatClampNeg), .ref b6, .long x4_1]) E b_c2_weight_42_1 rfl ?_
        refine j_goto (tgt := 49) E d_c2_weight_44 (by decide) ?_
        refine j_lv [2, 4] rfl ?_
        exact kp49 (tbL x4_3.toNatClampNeg) (.ref b6 : Value) x4_1 hF
  refine lpo1 FU (Int64.ofNat 1, Int32.ofInt 0) o1 ho1 ?_
  obtain ⟨e4_1, rfl⟩ : ∃ z, z = o1 := ⟨_, rfl⟩
  show J Γ 6 (HS κ A s0) 0 0 62 [(1, .long e4_1)] []
  refine j_blk (pc' := 63) (lv' := [(1, .long e4_1)]) (st' := [.long e4_1]) E b_c2_weight_62_1 rfl ?_
  have e : res = e4_1 := g_inj hF
  subst e
  exact j_lret E hQ d_c2_weight_63 (fun _ h => h)
theorem b_c2_eachHasMaster_0_1 : bdec cX2_eachHasMaster 0 [.aload_n 0] = true := by decide +kernel
theorem d_c2_eachHasMaster_1 : decode cX2_eachHasMaster 1 = .ok (.invokevirtual 78, 3) := by decide +kernel
theorem b_c2_eachHasMaster_4_3 : bdec cX2_eachHasMaster 4 [.istore_n 1, .iconst 0, .istore_n 2] = true := by decide +kernel
theorem b_c2_eachHasMaster_7_2 : bdec cX2_eachHasMaster 7 [.iload_n 2, .aload_n 0] = true := by decide +kernel
theorem d_c2_eachHasMaster_9 : decode cX2_eachHasMaster 9 = .ok (.getfield 21, 3) := by decide +kernel
theorem d_c2_eachHasMaster_12 : decode cX2_eachHasMaster 12 = .ok (.if_icmp .ge 21, 3) := by decide +kernel
theorem b_c2_eachHasMaster_15_4 : bdec cX2_eachHasMaster 15 [.aload_n 0, .iload_n 1, .iload_n 2, .iload_n 2] = true := by decide +kernel
theorem d_c2_eachHasMaster_19 : decode cX2_eachHasMaster 19 = .ok (.invokevirtual 81, 3) := by decide +kernel
theorem d_c2_eachHasMaster_22 : decode cX2_eachHasMaster 22 = .ok (.ifCond .ne 5, 3) := by decide +kernel
theorem b_c2_eachHasMaster_27_1 : bdec cX2_eachHasMaster 27 [.iinc 2 1] = true := by decide +kernel
theorem d_c2_eachHasMaster_30 : decode cX2_eachHasMaster 30 = .ok (.goto (-23), 3) := by decide +kernel
theorem b_c2_eachHasMaster_25_1 : bdec cX2_eachHasMaster 25 [.iconst 0] = true := by decide +kernel
theorem d_c2_eachHasMaster_26 : decode cX2_eachHasMaster 26 = .ok (.ireturn, 1) := by decide +kernel
theorem b_c2_eachHasMaster_33_1 : bdec cX2_eachHasMaster 33 [.iconst 1] = true := by decide +kernel
theorem d_c2_eachHasMaster_34 : decode cX2_eachHasMaster 34 = .ok (.ireturn, 1) := by decide +kernel
def f2_eachHasMaster_L7 (s0 : HM) (a0 : Nat) (v2 : Int32) (w : Int32) : Option ((Int32) ⊕ ((Int32) ⊕ (Unit))) := match w with
  | x7_2 => obd (hfi s0 [2] 2 a0) (fun v4 => if v4 ≤ x7_2 then (some (.inr (.inr ()))) else (ocl s0 a0 2 (obd (f2_mastersAmong s0 a0 v2 x7_2 x7_2) (fun v7 => if v7 = 0 then (some (.inr (.inl (Int32.ofInt 0)))) else (some (.inl (x7_2 + Int32.ofInt 1)))))))
def f2_eachHasMaster (s0 : HM) (a0 : Nat) : Option (Int32) := ocl s0 a0 2 (obd (f2_counting s0 a0) (fun v2 => obd (iter (f2_eachHasMaster_L7 s0 a0 v2) FU (Int32.ofInt 0)) (fun o3 => osm o3 (fun o3 => some o3) (fun o3 => some (Int32.ofInt 1)))))
set_option maxRecDepth 100000 in
set_option maxHeartbeats 4000000 in
theorem c2_eachHasMaster (l : Launch) (κ : KP) (A : Nat → Prop) (s0 : HM) (a0 : Nat) {res : Int32} (hF : f2_eachHasMaster s0 a0 = some res) : Met l yX2_eachHasMaster (Cond.code yX2_eachHasMaster cX2_eachHasMaster 3 (some .boolean) :: WT) (rmL 3 0 0) (PP κ A [.ref a0] (HS κ A s0)) (QQ (some (.int res)) (HS κ A s0) A) 0 0 A := by
  refine met_of (own := RX2) (by decide) rfl (Nat.le_of_ble_eq_true rfl) ?_
  intro Γ E hQ hL hR hA hent hini
  have hAA : ∀ q, A q → jA Γ q := fun q h => by rw [hA]; exact h
  have hroom : ∀ (d mL : Nat) {mc ms : Nat}, d < 3 → mL ≤ 21 → (rmL d mc ms).frames + 1 ≤ (jR Γ).frames ∧ 8 + (mL + 11) + (rmL d mc ms).locals ≤ (jR Γ).locals := fun d mL mc ms h1 h2 => by rw [hR]; exact rmL_le h1 h2
  show J Γ 3 (HS κ A s0) 0 0 0 [(0, .ref a0)] []
  unfold f2_eachHasMaster at hF
  refine j_blk (pc' := 1) (lv' := [(0, .ref a0)]) (st' := [.ref a0]) E b_c2_eachHasMaster_0_1 rfl ?_
  replace hF := ocl_at hF
  obtain ⟨hc, hF⟩ := hF
  replace hF := obd_at hF
  obtain ⟨v2, he1, hF⟩ := hF
  refine j_callv [] [] E w_RX2_78 (hroom 2 3 (by decide) (by decide)) hAA (c2_counting _ κ A _ _  he1) (fun _ h => h) (fun _ _ _ h _ _ => h) (fun _ h => j_recv E h hc rfl) rfl rfl (Nat.le_of_ble_eq_true rfl) d_c2_eachHasMaster_1 ⟨Nat.zero_le _, Nat.zero_le _⟩ ?_
  refine j_blk (pc' := 7) (lv' := [(2, .int (Int32.ofInt 0)), (1, .int v2), (0, .ref a0)]) (st' := []) E b_c2_eachHasMaster_4_3 rfl ?_
  refine j_lv [2, 1, 0] rfl ?_
  replace hF := obd_at hF
  obtain ⟨o3, ho3, hF⟩ := hF
  have lpo3 : ∀ (fu : Nat) (w : Int32) (o : (Int32) ⊕ (Unit)), iter (f2_eachHasMaster_L7 s0 a0 v2) fu w = some o → (fun (o : (Int32) ⊕ (Unit)) => match o with | .inl r => r = res | .inr o => J Γ 3 (HS κ A s0) 0 0 33 [] []) o → (fun (w : Int32) => J Γ 3 (HS κ A s0) 0 0 7 [(0, .ref a0), (1, .int v2), (2, .int w)] []) w := by
    refine j_iter (P := fun (w : Int32) => J Γ 3 (HS κ A s0) 0 0 7 [(0, .ref a0), (1, .int v2), (2, .int w)] []) (G := fun (o : (Int32) ⊕ (Unit)) => match o with | .inl r => r = res | .inr o => J Γ 3 (HS κ A s0) 0 0 33 [] []) ?_
    intro x7_2 q hF hI hO
    show J Γ 3 (HS κ A s0) 0 0 7 [(0, .ref a0), (1, .int v2), (2, .int x7_2)] []
    unfold f2_eachHasMaster_L7 at hF
    refine j_blk (pc' := 9) (lv' := [(0, .ref a0), (1, .int v2), (2, .int x7_2)]) (st' := [.ref a0, .int x7_2]) E b_c2_eachHasMaster_7_2 rfl ?_
    replace hF := obd_at hF
    obtain ⟨v4, ev4, hF⟩ := hF
    refine j_getI E fg_RX2_21 d_c2_eachHasMaster_9 ev4 ?_
    refine j_icmp_ge (tgt := 33) E d_c2_eachHasMaster_12 (by decide) (fun h5 => ?_) (fun h5 => ?_)
    · replace hF := g_t hF h5
      refine j_lv [] rfl ?_
      exact hO _ (g_inj hF)
    · replace hF := g_f hF h5
      refine j_blk (pc' := 19) (lv' := [(0, .ref a0), (1, .int v2), (2, .int x7_2)]) (st' := [.int x7_2, .int x7_2, .int v2, .ref a0]) E b_c2_eachHasMaster_15_4 rfl ?_
      replace hF := ocl_at hF
      obtain ⟨hc, hF⟩ := hF
      replace hF := obd_at hF
      obtain ⟨v7, he6, hF⟩ := hF
      refine j_callv [.int v2, .int x7_2, .int x7_2] [] E w_RX2_81 (hroom 0 4 (by decide) (by decide)) hAA (c2_mastersAmong _ κ A _ _ _ _ _  he6) (fun _ h => h) (fun _ _ _ h _ _ => h) (fun _ h => j_recv E h hc rfl) rfl rfl (Nat.le_of_ble_eq_true rfl) d_c2_eachHasMaster_19 ⟨Nat.zero_le _, Nat.zero_le _⟩ ?_
      refine j_if_ne (tgt := 27) E d_c2_eachHasMaster_22 (by decide) (fun h8 => ?_) (fun h8 => ?_)
      · replace hF := g_f hF h8
        refine j_blk (pc' := 30) (lv' := [(2, .int (x7_2 + Int32.ofInt 1)), (0, .ref a0), (1, .int v2)]) (st' := []) E b_c2_eachHasMaster_27_1 rfl ?_
        refine j_goto (tgt := 7) E d_c2_eachHasMaster_30 (by decide) ?_
        refine j_lv [1, 2, 0] rfl ?_
        exact hI _ (g_inj hF)
      · replace hF := g_t hF h8
        refine j_blk (pc' := 26) (lv' := [(0, .ref a0), (1, .int v2), (2, .int x7_2)]) (st' := [.int (Int32.ofInt 0)]) E b_c2_eachHasMaster_25_1 rfl ?_
        have e : Int32.ofInt 0 = res := hO _ (g_inj hF)
        subst e
        exact j_zret E hQ nb_0 d_c2_eachHasMaster_26 (fun _ h => h)
  refine lpo3 FU (Int32.ofInt 0) o3 ho3 ?_
  rcases o3 with o3 | o3
  · exact (g_inj hF).symm
  · skip
    show J Γ 3 (HS κ A s0) 0 0 33 [] []
    refine j_blk (pc' := 34) (lv' := []) (st' := [.int (Int32.ofInt 1)]) E b_c2_eachHasMaster_33_1 rfl ?_
    have e : res = Int32.ofInt 1 := g_inj hF
    subst e
    exact j_zret E hQ nb_1 d_c2_eachHasMaster_34 (fun _ h => h)
theorem b_c2_firstOrphanPair_0_1 : bdec cX2_firstOrphanPair 0 [.aload_n 0] = true := by decide +kernel
theorem d_c2_firstOrphanPair_1 : decode cX2_firstOrphanPair 1 = .ok (.invokevirtual 78, 3) := by decide +kernel
theorem b_c2_firstOrphanPair_4_3 : bdec cX2_firstOrphanPair 4 [.istore_n 1, .iconst 0, .istore_n 2] = true := by decide +kernel
theorem b_c2_firstOrphanPair_7_2 : bdec cX2_firstOrphanPair 7 [.iload_n 2, .aload_n 0] = true := by decide +kernel
theorem d_c2_firstOrphanPair_9 : decode cX2_firstOrphanPair 9 = .ok (.getfield 21, 3) := by decide +kernel
theorem d_c2_firstOrphanPair_12 : decode cX2_firstOrphanPair 12 = .ok (.if_icmp .ge 44, 3) := by decide +kernel
theorem b_c2_firstOrphanPair_15_4 : bdec cX2_firstOrphanPair 15 [.iload_n 2, .iconst 1, .iadd, .istore_n 3] = true := by decide +kernel
theorem b_c2_firstOrphanPair_19_2 : bdec cX2_firstOrphanPair 19 [.iload_n 3, .aload_n 0] = true := by decide +kernel
theorem d_c2_firstOrphanPair_21 : decode cX2_firstOrphanPair 21 = .ok (.getfield 21, 3) := by decide +kernel
theorem d_c2_firstOrphanPair_24 : decode cX2_firstOrphanPair 24 = .ok (.if_icmp .ge 26, 3) := by decide +kernel
theorem b_c2_firstOrphanPair_27_4 : bdec cX2_firstOrphanPair 27 [.aload_n 0, .iload_n 1, .iload_n 2, .iload_n 3] = true := by decide +kernel
theorem d_c2_firstOrphanPair_31 : decode cX2_firstOrphanPair 31 = .ok (.invokevirtual 81, 3) := by decide +kernel
theorem d_c2_firstOrphanPair_34 : decode cX2_firstOrphanPair 34 = .ok (.ifCond .ne 10, 3) := by decide +kernel
theorem b_c2_firstOrphanPair_44_1 : bdec cX2_firstOrphanPair 44 [.iinc 3 1] = true := by decide +kernel
theorem d_c2_firstOrphanPair_47 : decode cX2_firstOrphanPair 47 = .ok (.goto (-28), 3) := by decide +kernel
theorem b_c2_firstOrphanPair_37_5 : bdec cX2_firstOrphanPair 37 [.bipush 10, .iload_n 2, .imul, .iload_n 3, .iadd] = true := by decide +kernel
theorem d_c2_firstOrphanPair_43 : decode cX2_firstOrphanPair 43 = .ok (.ireturn, 1) := by decide +kernel
theorem b_c2_firstOrphanPair_50_1 : bdec cX2_firstOrphanPair 50 [.iinc 2 1] = true := by decide +kernel
theorem d_c2_firstOrphanPair_53 : decode cX2_firstOrphanPair 53 = .ok (.goto (-46), 3) := by decide +kernel
theorem b_c2_firstOrphanPair_56_1 : bdec cX2_firstOrphanPair 56 [.bipush (-4)] = true := by decide +kernel
theorem d_c2_firstOrphanPair_58 : decode cX2_firstOrphanPair 58 = .ok (.ireturn, 1) := by decide +kernel
def f2_firstOrphanPair_L19 (s0 : HM) (a0 : Nat) (v2 : Int32) (x7_2 : Int32) (w : Int32) : Option ((Int32) ⊕ ((Int32) ⊕ (Unit))) := match w with
  | x19_3 => obd (hfi s0 [2] 2 a0) (fun v7 => if v7 ≤ x19_3 then (some (.inr (.inr ()))) else (ocl s0 a0 2 (obd (f2_mastersAmong s0 a0 v2 x7_2 x19_3) (fun v10 => if v10 = 0 then (some (.inr (.inl ((((Int8.ofInt 10).toInt32) * x7_2) + x19_3)))) else (some (.inl (x19_3 + Int32.ofInt 1)))))))
def f2_firstOrphanPair_L7 (s0 : HM) (a0 : Nat) (v2 : Int32) (w : Int32) : Option ((Int32) ⊕ ((Int32) ⊕ (Unit))) := match w with
  | x7_2 => obd (hfi s0 [2] 2 a0) (fun v4 => if v4 ≤ x7_2 then (some (.inr (.inr ()))) else (obd (iter (f2_firstOrphanPair_L19 s0 a0 v2 x7_2) FU (x7_2 + (Int32.ofInt 1))) (fun o6 => osm o6 (fun o6 => some (.inr (.inl o6))) (fun o6 => some (.inl (x7_2 + Int32.ofInt 1))))))
def f2_firstOrphanPair (s0 : HM) (a0 : Nat) : Option (Int32) := ocl s0 a0 2 (obd (f2_counting s0 a0) (fun v2 => obd (iter (f2_firstOrphanPair_L7 s0 a0 v2) FU (Int32.ofInt 0)) (fun o3 => osm o3 (fun o3 => some o3) (fun o3 => some ((Int8.ofInt (-4)).toInt32)))))
set_option maxRecDepth 100000 in
set_option maxHeartbeats 4000000 in
theorem c2_firstOrphanPair (l : Launch) (κ : KP) (A : Nat → Prop) (s0 : HM) (a0 : Nat) {res : Int32} (hF : f2_firstOrphanPair s0 a0 = some res) : Met l yX2_firstOrphanPair (Cond.code yX2_firstOrphanPair cX2_firstOrphanPair 4 (some .int) :: WT) (rmL 3 0 0) (PP κ A [.ref a0] (HS κ A s0)) (QQ (some (.int res)) (HS κ A s0) A) 0 0 A := by
  refine met_of (own := RX2) (by decide) rfl (Nat.le_of_ble_eq_true rfl) ?_
  intro Γ E hQ hL hR hA hent hini
  have hAA : ∀ q, A q → jA Γ q := fun q h => by rw [hA]; exact h
  have hroom : ∀ (d mL : Nat) {mc ms : Nat}, d < 3 → mL ≤ 21 → (rmL d mc ms).frames + 1 ≤ (jR Γ).frames ∧ 8 + (mL + 11) + (rmL d mc ms).locals ≤ (jR Γ).locals := fun d mL mc ms h1 h2 => by rw [hR]; exact rmL_le h1 h2
  show J Γ 4 (HS κ A s0) 0 0 0 [(0, .ref a0)] []
  unfold f2_firstOrphanPair at hF
  refine j_blk (pc' := 1) (lv' := [(0, .ref a0)]) (st' := [.ref a0]) E b_c2_firstOrphanPair_0_1 rfl ?_
  replace hF := ocl_at hF
  obtain ⟨hc, hF⟩ := hF
  replace hF := obd_at hF
  obtain ⟨v2, he1, hF⟩ := hF
  refine j_callv [] [] E w_RX2_78 (hroom 2 3 (by decide) (by decide)) hAA (c2_counting _ κ A _ _  he1) (fun _ h => h) (fun _ _ _ h _ _ => h) (fun _ h => j_recv E h hc rfl) rfl rfl (Nat.le_of_ble_eq_true rfl) d_c2_firstOrphanPair_1 ⟨Nat.zero_le _, Nat.zero_le _⟩ ?_
  refine j_blk (pc' := 7) (lv' := [(2, .int (Int32.ofInt 0)), (1, .int v2), (0, .ref a0)]) (st' := []) E b_c2_firstOrphanPair_4_3 rfl ?_
  refine j_lv [2, 1, 0] rfl ?_
  replace hF := obd_at hF
  obtain ⟨o3, ho3, hF⟩ := hF
  have lpo3 : ∀ (fu : Nat) (w : Int32) (o : (Int32) ⊕ (Unit)), iter (f2_firstOrphanPair_L7 s0 a0 v2) fu w = some o → (fun (o : (Int32) ⊕ (Unit)) => match o with | .inl r => r = res | .inr o => J Γ 4 (HS κ A s0) 0 0 56 [] []) o → (fun (w : Int32) => J Γ 4 (HS κ A s0) 0 0 7 [(0, .ref a0), (1, .int v2), (2, .int w)] []) w := by
    refine j_iter (P := fun (w : Int32) => J Γ 4 (HS κ A s0) 0 0 7 [(0, .ref a0), (1, .int v2), (2, .int w)] []) (G := fun (o : (Int32) ⊕ (Unit)) => match o with | .inl r => r = res | .inr o => J Γ 4 (HS κ A s0) 0 0 56 [] []) ?_
    intro x7_2 q hF hI hO
    show J Γ 4 (HS κ A s0) 0 0 7 [(0, .ref a0), (1, .int v2), (2, .int x7_2)] []
    unfold f2_firstOrphanPair_L7 at hF
    refine j_blk (pc' := 9) (lv' := [(0, .ref a0), (1, .int v2), (2, .int x7_2)]) (st' := [.ref a0, .int x7_2]) E b_c2_firstOrphanPair_7_2 rfl ?_
    replace hF := obd_at hF
    obtain ⟨v4, ev4, hF⟩ := hF
    refine j_getI E fg_RX2_21 d_c2_firstOrphanPair_9 ev4 ?_
    refine j_icmp_ge (tgt := 56) E d_c2_firstOrphanPair_12 (by decide) (fun h5 => ?_) (fun h5 => ?_)
    · replace hF := g_t hF h5
      refine j_lv [] rfl ?_
      exact hO _ (g_inj hF)
    · replace hF := g_f hF h5
      refine j_blk (pc' := 19) (lv' := [(3, .int (x7_2 + (Int32.ofInt 1))), (0, .ref a0), (1, .int v2), (2, .int x7_2)]) (st' := []) E b_c2_firstOrphanPair_15_4 rfl ?_
      refine j_lv [1, 2, 3, 0] rfl ?_
      replace hF := obd_at hF
      obtain ⟨o6, ho6, hF⟩ := hF
      have lpo6 : ∀ (fu : Nat) (w : Int32) (o : (Int32) ⊕ (Unit)), iter (f2_firstOrphanPair_L19 s0 a0 v2 x7_2) fu w = some o → (fun (o : (Int32) ⊕ (Unit)) => match o with | .inl r => r = res | .inr o => J Γ 4 (HS κ A s0) 0 0 50 [(0, .ref a0), (1, .int v2), (2, .int x7_2)] []) o → (fun (w : Int32) => J Γ 4 (HS κ A s0) 0 0 19 [(0, .ref a0), (1, .int v2), (2, .int x7_2), (3, .int w)] []) w := by
        refine j_iter (P := fun (w : Int32) => J Γ 4 (HS κ A s0) 0 0 19 [(0, .ref a0), (1, .int v2), (2, .int x7_2), (3, .int w)] []) (G := fun (o : (Int32) ⊕ (Unit)) => match o with | .inl r => r = res | .inr o => J Γ 4 (HS κ A s0) 0 0 50 [(0, .ref a0), (1, .int v2), (2, .int x7_2)] []) ?_
        intro x19_3 q hF hI hO
        show J Γ 4 (HS κ A s0) 0 0 19 [(0, .ref a0), (1, .int v2), (2, .int x7_2), (3, .int x19_3)] []
        unfold f2_firstOrphanPair_L19 at hF
        refine j_blk (pc' := 21) (lv' := [(0, .ref a0), (1, .int v2), (2, .int x7_2), (3, .int x19_3)]) (st' := [.ref a0, .int x19_3]) E b_c2_firstOrphanPair_19_2 rfl ?_
        replace hF := obd_at hF
        obtain ⟨v7, ev7, hF⟩ := hF
        refine j_getI E fg_RX2_21 d_c2_firstOrphanPair_21 ev7 ?_
        refine j_icmp_ge (tgt := 50) E d_c2_firstOrphanPair_24 (by decide) (fun h8 => ?_) (fun h8 => ?_)
        · replace hF := g_t hF h8
          refine j_lv [0, 1, 2] rfl ?_
          exact hO _ (g_inj hF)
        · replace hF := g_f hF h8
          refine j_blk (pc' := 31) (lv' := [(0, .ref a0), (1, .int v2), (2, .int x7_2), (3, .int x19_3)]) (st' := [.int x19_3, .int x7_2, .int v2, .ref a0]) E b_c2_firstOrphanPair_27_4 rfl ?_
          replace hF := ocl_at hF
          obtain ⟨hc, hF⟩ := hF
          replace hF := obd_at hF
          obtain ⟨v10, he9, hF⟩ := hF
          refine j_callv [.int v2, .int x7_2, .int x19_3] [] E w_RX2_81 (hroom 0 4 (by decide) (by decide)) hAA (c2_mastersAmong _ κ A _ _ _ _ _  he9) (fun _ h => h) (fun _ _ _ h _ _ => h) (fun _ h => j_recv E h hc rfl) rfl rfl (Nat.le_of_ble_eq_true rfl) d_c2_firstOrphanPair_31 ⟨Nat.zero_le _, Nat.zero_le _⟩ ?_
          refine j_if_ne (tgt := 44) E d_c2_firstOrphanPair_34 (by decide) (fun h11 => ?_) (fun h11 => ?_)
          · replace hF := g_f hF h11
            refine j_blk (pc' := 47) (lv' := [(3, .int (x19_3 + Int32.ofInt 1)), (0, .ref a0), (1, .int v2), (2, .int x7_2)]) (st' := []) E b_c2_firstOrphanPair_44_1 rfl ?_
            refine j_goto (tgt := 19) E d_c2_firstOrphanPair_47 (by decide) ?_
            refine j_lv [1, 2, 3, 0] rfl ?_
            exact hI _ (g_inj hF)
          · replace hF := g_t hF h11
            refine j_blk (pc' := 43) (lv' := [(0, .ref a0), (1, .int v2), (2, .int x7_2), (3, .int x19_3)]) (st' := [.int ((((Int8.ofInt 10).toInt32) * x7_2) + x19_3)]) E b_c2_firstOrphanPair_37_5 rfl ?_
            have e : (((Int8.ofInt 10).toInt32) * x7_2) + x19_3 = res := hO _ (g_inj hF)
            subst e
            exact j_iret E hQ d_c2_firstOrphanPair_43 (fun _ h => h)
      refine lpo6 FU (x7_2 + (Int32.ofInt 1)) o6 ho6 ?_
      rcases o6 with o6 | o6
      · exact hO _ (g_inj hF)
      · skip
        show J Γ 4 (HS κ A s0) 0 0 50 [(0, .ref a0), (1, .int v2), (2, .int x7_2)] []
        refine j_blk (pc' := 53) (lv' := [(2, .int (x7_2 + Int32.ofInt 1)), (0, .ref a0), (1, .int v2)]) (st' := []) E b_c2_firstOrphanPair_50_1 rfl ?_
        refine j_goto (tgt := 7) E d_c2_firstOrphanPair_53 (by decide) ?_
        refine j_lv [1, 2, 0] rfl ?_
        exact hI _ (g_inj hF)
  refine lpo3 FU (Int32.ofInt 0) o3 ho3 ?_
  rcases o3 with o3 | o3
  · exact (g_inj hF).symm
  · skip
    show J Γ 4 (HS κ A s0) 0 0 56 [] []
    refine j_blk (pc' := 58) (lv' := []) (st' := [.int ((Int8.ofInt (-4)).toInt32)]) E b_c2_firstOrphanPair_56_1 rfl ?_
    have e : res = (Int8.ofInt (-4)).toInt32 := g_inj hF
    subst e
    exact j_iret E hQ d_c2_firstOrphanPair_58 (fun _ h => h)
theorem b_c2_orphanPairs_0_1 : bdec cX2_orphanPairs 0 [.aload_n 0] = true := by decide +kernel
theorem d_c2_orphanPairs_1 : decode cX2_orphanPairs 1 = .ok (.invokevirtual 78, 3) := by decide +kernel
theorem b_c2_orphanPairs_4_5 : bdec cX2_orphanPairs 4 [.istore_n 1, .iconst 0, .istore_n 2, .iconst 0, .istore_n 3] = true := by decide +kernel
theorem b_c2_orphanPairs_9_2 : bdec cX2_orphanPairs 9 [.iload_n 3, .aload_n 0] = true := by decide +kernel
theorem d_c2_orphanPairs_11 : decode cX2_orphanPairs 11 = .ok (.getfield 21, 3) := by decide +kernel
theorem d_c2_orphanPairs_14 : decode cX2_orphanPairs 14 = .ok (.if_icmp .ge 43, 3) := by decide +kernel
theorem b_c2_orphanPairs_17_4 : bdec cX2_orphanPairs 17 [.iload_n 3, .iconst 1, .iadd, .istore 4] = true := by decide +kernel
theorem b_c2_orphanPairs_22_2 : bdec cX2_orphanPairs 22 [.iload 4, .aload_n 0] = true := by decide +kernel
theorem d_c2_orphanPairs_25 : decode cX2_orphanPairs 25 = .ok (.getfield 21, 3) := by decide +kernel
theorem d_c2_orphanPairs_28 : decode cX2_orphanPairs 28 = .ok (.if_icmp .ge 23, 3) := by decide +kernel
theorem b_c2_orphanPairs_31_4 : bdec cX2_orphanPairs 31 [.aload_n 0, .iload_n 1, .iload_n 3, .iload 4] = true := by decide +kernel
theorem d_c2_orphanPairs_36 : decode cX2_orphanPairs 36 = .ok (.invokevirtual 81, 3) := by decide +kernel
theorem d_c2_orphanPairs_39 : decode cX2_orphanPairs 39 = .ok (.ifCond .ne 6, 3) := by decide +kernel
theorem b_c2_orphanPairs_45_1 : bdec cX2_orphanPairs 45 [.iinc 4 1] = true := by decide +kernel
theorem d_c2_orphanPairs_48 : decode cX2_orphanPairs 48 = .ok (.goto (-26), 3) := by decide +kernel
theorem b_c2_orphanPairs_42_2 : bdec cX2_orphanPairs 42 [.iinc 2 1, .iinc 4 1] = true := by decide +kernel
theorem b_c2_orphanPairs_51_1 : bdec cX2_orphanPairs 51 [.iinc 3 1] = true := by decide +kernel
theorem d_c2_orphanPairs_54 : decode cX2_orphanPairs 54 = .ok (.goto (-45), 3) := by decide +kernel
theorem b_c2_orphanPairs_57_1 : bdec cX2_orphanPairs 57 [.iload_n 2] = true := by decide +kernel
theorem d_c2_orphanPairs_58 : decode cX2_orphanPairs 58 = .ok (.ireturn, 1) := by decide +kernel
def f2_orphanPairs_L22 (s0 : HM) (a0 : Nat) (v2 : Int32) (x9_3 : Int32) (w : Int32 × Int32) : Option ((Int32 × Int32) ⊕ (Int32)) := match w with
  | (x22_2, x22_4) => obd (hfi s0 [2] 2 a0) (fun v7 => if v7 ≤ x22_4 then (some (.inr x22_2)) else (ocl s0 a0 2 (obd (f2_mastersAmong s0 a0 v2 x9_3 x22_4) (fun v10 => if v10 = 0 then (some (.inl (x22_2 + Int32.ofInt 1, x22_4 + Int32.ofInt 1))) else (some (.inl (x22_2, x22_4 + Int32.ofInt 1)))))))
def f2_orphanPairs_L9 (s0 : HM) (a0 : Nat) (v2 : Int32) (w : Int32 × Int32) : Option ((Int32 × Int32) ⊕ (Int32)) := match w with
  | (x9_2, x9_3) => obd (hfi s0 [2] 2 a0) (fun v4 => if v4 ≤ x9_3 then (some (.inr x9_2)) else (obd (iter (f2_orphanPairs_L22 s0 a0 v2 x9_3) FU (x9_2, x9_3 + (Int32.ofInt 1))) (fun o6 => match o6 with | e22_2 => some (.inl (e22_2, x9_3 + Int32.ofInt 1)))))
def f2_orphanPairs (s0 : HM) (a0 : Nat) : Option (Int32) := ocl s0 a0 2 (obd (f2_counting s0 a0) (fun v2 => obd (iter (f2_orphanPairs_L9 s0 a0 v2) FU (Int32.ofInt 0, Int32.ofInt 0)) (fun o3 => match o3 with | e9_2 => some e9_2)))
set_option maxRecDepth 100000 in
set_option maxHeartbeats 4000000 in
theorem c2_orphanPairs (l : Launch) (κ : KP) (A : Nat → Prop) (s0 : HM) (a0 : Nat) {res : Int32} (hF : f2_orphanPairs s0 a0 = some res) : Met l yX2_orphanPairs (Cond.code yX2_orphanPairs cX2_orphanPairs 5 (some .int) :: WT) (rmL 3 0 0) (PP κ A [.ref a0] (HS κ A s0)) (QQ (some (.int res)) (HS κ A s0) A) 0 0 A := by
  refine met_of (own := RX2) (by decide) rfl (Nat.le_of_ble_eq_true rfl) ?_
  intro Γ E hQ hL hR hA hent hini
  have hAA : ∀ q, A q → jA Γ q := fun q h => by rw [hA]; exact h
  have hroom : ∀ (d mL : Nat) {mc ms : Nat}, d < 3 → mL ≤ 21 → (rmL d mc ms).frames + 1 ≤ (jR Γ).frames ∧ 8 + (mL + 11) + (rmL d mc ms).locals ≤ (jR Γ).locals := fun d mL mc ms h1 h2 => by rw [hR]; exact rmL_le h1 h2
  show J Γ 5 (HS κ A s0) 0 0 0 [(0, .ref a0)] []
  unfold f2_orphanPairs at hF
  refine j_blk (pc' := 1) (lv' := [(0, .ref a0)]) (st' := [.ref a0]) E b_c2_orphanPairs_0_1 rfl ?_
  replace hF := ocl_at hF
  obtain ⟨hc, hF⟩ := hF
  replace hF := obd_at hF
  obtain ⟨v2, he1, hF⟩ := hF
  refine j_callv [] [] E w_RX2_78 (hroom 2 3 (by decide) (by decide)) hAA (c2_counting _ κ A _ _  he1) (fun _ h => h) (fun _ _ _ h _ _ => h) (fun _ h => j_recv E h hc rfl) rfl rfl (Nat.le_of_ble_eq_true rfl) d_c2_orphanPairs_1 ⟨Nat.zero_le _, Nat.zero_le _⟩ ?_
  refine j_blk (pc' := 9) (lv' := [(3, .int (Int32.ofInt 0)), (2, .int (Int32.ofInt 0)), (1, .int v2), (0, .ref a0)]) (st' := []) E b_c2_orphanPairs_4_5 rfl ?_
  refine j_lv [3, 2, 1, 0] rfl ?_
  replace hF := obd_at hF
  obtain ⟨o3, ho3, hF⟩ := hF
  have lpo3 : ∀ (fu : Nat) (w : Int32 × Int32) (o : Int32), iter (f2_orphanPairs_L9 s0 a0 v2) fu w = some o → (fun (o : Int32) => J Γ 5 (HS κ A s0) 0 0 57 [(2, .int o)] []) o → (fun (w : Int32 × Int32) => J Γ 5 (HS κ A s0) 0 0 9 [(0, .ref a0), (1, .int v2), (2, .int w.1), (3, .int w.2)] []) w := by
    refine j_iter (P := fun (w : Int32 × Int32) => J Γ 5 (HS κ A s0) 0 0 9 [(0, .ref a0), (1, .int v2), (2, .int w.1), (3, .int w.2)] []) (G := fun (o : Int32) => J Γ 5 (HS κ A s0) 0 0 57 [(2, .int o)] []) ?_
    rintro ⟨x9_2, x9_3⟩ q hF hI hO
    show J Γ 5 (HS κ A s0) 0 0 9 [(0, .ref a0), (1, .int v2), (2, .int x9_2), (3, .int x9_3)] []
    unfold f2_orphanPairs_L9 at hF
    refine j_blk (pc' := 11) (lv' := [(0, .ref a0), (1, .int v2), (2, .int x9_2), (3, .int x9_3)]) (st' := [.ref a0, .int x9_3]) E b_c2_orphanPairs_9_2 rfl ?_
    replace hF := obd_at hF
    obtain ⟨v4, ev4, hF⟩ := hF
    refine j_getI E fg_RX2_21 d_c2_orphanPairs_11 ev4 ?_
    refine j_icmp_ge (tgt := 57) E d_c2_orphanPairs_14 (by decide) (fun h5 => ?_) (fun h5 => ?_)
    · replace hF := g_t hF h5
      refine j_lv [2] rfl ?_
      exact hO _ (g_inj hF)
    · replace hF := g_f hF h5
      refine j_blk (pc' := 22) (lv' := [(4, .int (x9_3 + (Int32.ofInt 1))), (0, .ref a0), (1, .int v2), (2, .int x9_2), (3, .int x9_3)]) (st' := []) E b_c2_orphanPairs_17_4 rfl ?_
      refine j_lv [1, 2, 3, 4, 0] rfl ?_
      replace hF := obd_at hF
      obtain ⟨o6, ho6, hF⟩ := hF
      have lpo6 : ∀ (fu : Nat) (w : Int32 × Int32) (o : Int32), iter (f2_orphanPairs_L22 s0 a0 v2 x9_3) fu w = some o → (fun (o : Int32) => J Γ 5 (HS κ A s0) 0 0 51 [(0, .ref a0), (1, .int v2), (2, .int o), (3, .int x9_3)] []) o → (fun (w : Int32 × Int32) => J Γ 5 (HS κ A s0) 0 0 22 [(0, .ref a0), (1, .int v2), (2, .int w.1), (3, .int x9_3), (4, .int w.2)] []) w := by
        refine j_iter (P := fun (w : Int32 × Int32) => J Γ 5 (HS κ A s0) 0 0 22 [(0, .ref a0), (1, .int v2), (2, .int w.1), (3, .int x9_3), (4, .int w.2)] []) (G := fun (o : Int32) => J Γ 5 (HS κ A s0) 0 0 51 [(0, .ref a0), (1, .int v2), (2, .int o), (3, .int x9_3)] []) ?_
        rintro ⟨x22_2, x22_4⟩ q hF hI hO
        show J Γ 5 (HS κ A s0) 0 0 22 [(0, .ref a0), (1, .int v2), (2, .int x22_2), (3, .int x9_3), (4, .int x22_4)] []
        unfold f2_orphanPairs_L22 at hF
        refine j_blk (pc' := 25) (lv' := [(0, .ref a0), (1, .int v2), (2, .int x22_2), (3, .int x9_3), (4, .int x22_4)]) (st' := [.ref a0, .int x22_4]) E b_c2_orphanPairs_22_2 rfl ?_
        replace hF := obd_at hF
        obtain ⟨v7, ev7, hF⟩ := hF
        refine j_getI E fg_RX2_21 d_c2_orphanPairs_25 ev7 ?_
        refine j_icmp_ge (tgt := 51) E d_c2_orphanPairs_28 (by decide) (fun h8 => ?_) (fun h8 => ?_)
        · replace hF := g_t hF h8
          refine j_lv [0, 1, 2, 3] rfl ?_
          exact hO _ (g_inj hF)
        · replace hF := g_f hF h8
          refine j_blk (pc' := 36) (lv' := [(0, .ref a0), (1, .int v2), (2, .int x22_2), (3, .int x9_3), (4, .int x22_4)]) (st' := [.int x22_4, .int x9_3, .int v2, .ref a0]) E b_c2_orphanPairs_31_4 rfl ?_
          replace hF := ocl_at hF
          obtain ⟨hc, hF⟩ := hF
          replace hF := obd_at hF
          obtain ⟨v10, he9, hF⟩ := hF
          refine j_callv [.int v2, .int x9_3, .int x22_4] [] E w_RX2_81 (hroom 0 4 (by decide) (by decide)) hAA (c2_mastersAmong _ κ A _ _ _ _ _  he9) (fun _ h => h) (fun _ _ _ h _ _ => h) (fun _ h => j_recv E h hc rfl) rfl rfl (Nat.le_of_ble_eq_true rfl) d_c2_orphanPairs_36 ⟨Nat.zero_le _, Nat.zero_le _⟩ ?_
          refine j_if_ne (tgt := 45) E d_c2_orphanPairs_39 (by decide) (fun h11 => ?_) (fun h11 => ?_)
          · replace hF := g_f hF h11
            refine j_blk (pc' := 48) (lv' := [(4, .int (x22_4 + Int32.ofInt 1)), (0, .ref a0), (1, .int v2), (2, .int x22_2), (3, .int x9_3)]) (st' := []) E b_c2_orphanPairs_45_1 rfl ?_
            refine j_goto (tgt := 22) E d_c2_orphanPairs_48 (by decide) ?_
            refine j_lv [1, 2, 3, 4, 0] rfl ?_
            exact hI _ (g_inj hF)
          · replace hF := g_t hF h11
            refine j_blk (pc' := 48) (lv' := [(4, .int (x22_4 + Int32.ofInt 1)), (2, .int (x22_2 + Int32.ofInt 1)), (0, .ref a0), (1, .int v2), (3, .int x9_3)]) (st' := []) E b_c2_orphanPairs_42_2 rfl ?_
            refine j_goto (tgt := 22) E d_c2_orphanPairs_48 (by decide) ?_
            refine j_lv [2, 3, 1, 4, 0] rfl ?_
            exact hI _ (g_inj hF)
      refine lpo6 FU (x9_2, x9_3 + (Int32.ofInt 1)) o6 ho6 ?_
      obtain ⟨e22_2, rfl⟩ : ∃ z, z = o6 := ⟨_, rfl⟩
      show J Γ 5 (HS κ A s0) 0 0 51 [(0, .ref a0), (1, .int v2), (2, .int e22_2), (3, .int x9_3)] []
      refine j_blk (pc' := 54) (lv' := [(3, .int (x9_3 + Int32.ofInt 1)), (0, .ref a0), (1, .int v2), (2, .int e22_2)]) (st' := []) E b_c2_orphanPairs_51_1 rfl ?_
      refine j_goto (tgt := 9) E d_c2_orphanPairs_54 (by decide) ?_
      refine j_lv [1, 2, 3, 0] rfl ?_
      exact hI _ (g_inj hF)
  refine lpo3 FU (Int32.ofInt 0, Int32.ofInt 0) o3 ho3 ?_
  obtain ⟨e9_2, rfl⟩ : ∃ z, z = o3 := ⟨_, rfl⟩
  show J Γ 5 (HS κ A s0) 0 0 57 [(2, .int e9_2)] []
  refine j_blk (pc' := 58) (lv' := [(2, .int e9_2)]) (st' := [.int e9_2]) E b_c2_orphanPairs_57_1 rfl ?_
  have e : res = e9_2 := g_inj hF
  subst e
  exact j_iret E hQ d_c2_orphanPairs_58 (fun _ h => h)
theorem b_c2_allCosts_0_4 : bdec cX2_allCosts 0 [.iconst 0, .istore_n 1, .iconst 0, .istore_n 2] = true := by decide +kernel
theorem b_c2_allCosts_4_2 : bdec cX2_allCosts 4 [.iload_n 2, .aload_n 0] = true := by decide +kernel
theorem d_c2_allCosts_6 : decode cX2_allCosts 6 = .ok (.getfield 21, 3) := by decide +kernel
theorem d_c2_allCosts_9 : decode cX2_allCosts 9 = .ok (.if_icmp .ge 21, 3) := by decide +kernel
theorem b_c2_allCosts_12_2 : bdec cX2_allCosts 12 [.iload_n 1, .aload_n 0] = true := by decide +kernel
theorem d_c2_allCosts_14 : decode cX2_allCosts 14 = .ok (.getfield 11, 3) := by decide +kernel
theorem b_c2_allCosts_17_1 : bdec cX2_allCosts 17 [.iload_n 2] = true := by decide +kernel
theorem d_c2_allCosts_18 : decode cX2_allCosts 18 = .ok (.aaload, 1) := by decide +kernel
theorem d_c2_allCosts_19 : decode cX2_allCosts 19 = .ok (.invokevirtual 42, 3) := by decide +kernel
theorem b_c2_allCosts_22_3 : bdec cX2_allCosts 22 [.iadd, .istore_n 1, .iinc 2 1] = true := by decide +kernel
theorem d_c2_allCosts_27 : decode cX2_allCosts 27 = .ok (.goto (-23), 3) := by decide +kernel
theorem b_c2_allCosts_30_1 : bdec cX2_allCosts 30 [.iload_n 1] = true := by decide +kernel
theorem d_c2_allCosts_31 : decode cX2_allCosts 31 = .ok (.ireturn, 1) := by decide +kernel
def f2_allCosts_L4 (s0 : HM) (a0 : Nat) (w : Int32 × Int32) : Option ((Int32 × Int32) ⊕ (Int32)) := match w with
  | (x4_1, x4_2) => obd (hfi s0 [2] 2 a0) (fun v2 => if v2 ≤ x4_2 then (some (.inr x4_1)) else (obd (hfld s0 [2] 0 a0) (fun v4 => orf v4 (fun b5 => obd (hrld s0 b5 x4_2) (fun v6 => orf v6 (fun b7 => obd (v_cost s0 b7) (fun v8 => some (.inl (x4_1 + v8, x4_2 + Int32.ofInt 1)))))))))
def f2_allCosts (s0 : HM) (a0 : Nat) : Option (Int32) := obd (iter (f2_allCosts_L4 s0 a0) FU (Int32.ofInt 0, Int32.ofInt 0)) (fun o1 => match o1 with | e4_1 => some e4_1)
set_option maxRecDepth 100000 in
set_option maxHeartbeats 4000000 in
theorem c2_allCosts (l : Launch) (κ : KP) (A : Nat → Prop) (s0 : HM) (a0 : Nat) {res : Int32} (hF : f2_allCosts s0 a0 = some res) : Met l yX2_allCosts (Cond.code yX2_allCosts cX2_allCosts 3 (some .int) :: WT) (rmL 3 0 0) (PP κ A [.ref a0] (HS κ A s0)) (QQ (some (.int res)) (HS κ A s0) A) 0 0 A := by
  refine met_of (own := RX2) (by decide) rfl (Nat.le_of_ble_eq_true rfl) ?_
  intro Γ E hQ hL hR hA hent hini
  have hAA : ∀ q, A q → jA Γ q := fun q h => by rw [hA]; exact h
  have hroom : ∀ (d mL : Nat) {mc ms : Nat}, d < 3 → mL ≤ 21 → (rmL d mc ms).frames + 1 ≤ (jR Γ).frames ∧ 8 + (mL + 11) + (rmL d mc ms).locals ≤ (jR Γ).locals := fun d mL mc ms h1 h2 => by rw [hR]; exact rmL_le h1 h2
  show J Γ 3 (HS κ A s0) 0 0 0 [(0, .ref a0)] []
  unfold f2_allCosts at hF
  refine j_blk (pc' := 4) (lv' := [(2, .int (Int32.ofInt 0)), (1, .int (Int32.ofInt 0)), (0, .ref a0)]) (st' := []) E b_c2_allCosts_0_4 rfl ?_
  refine j_lv [2, 1, 0] rfl ?_
  replace hF := obd_at hF
  obtain ⟨o1, ho1, hF⟩ := hF
  have lpo1 : ∀ (fu : Nat) (w : Int32 × Int32) (o : Int32), iter (f2_allCosts_L4 s0 a0) fu w = some o → (fun (o : Int32) => J Γ 3 (HS κ A s0) 0 0 30 [(1, .int o)] []) o → (fun (w : Int32 × Int32) => J Γ 3 (HS κ A s0) 0 0 4 [(0, .ref a0), (1, .int w.1), (2, .int w.2)] []) w := by
    refine j_iter (P := fun (w : Int32 × Int32) => J Γ 3 (HS κ A s0) 0 0 4 [(0, .ref a0), (1, .int w.1), (2, .int w.2)] []) (G := fun (o : Int32) => J Γ 3 (HS κ A s0) 0 0 30 [(1, .int o)] []) ?_
    rintro ⟨x4_1, x4_2⟩ q hF hI hO
    show J Γ 3 (HS κ A s0) 0 0 4 [(0, .ref a0), (1, .int x4_1), (2, .int x4_2)] []
    unfold f2_allCosts_L4 at hF
    refine j_blk (pc' := 6) (lv' := [(0, .ref a0), (1, .int x4_1), (2, .int x4_2)]) (st' := [.ref a0, .int x4_2]) E b_c2_allCosts_4_2 rfl ?_
    replace hF := obd_at hF
    obtain ⟨v2, ev2, hF⟩ := hF
    refine j_getI E fg_RX2_21 d_c2_allCosts_6 ev2 ?_
    refine j_icmp_ge (tgt := 30) E d_c2_allCosts_9 (by decide) (fun h3 => ?_) (fun h3 => ?_)
    · replace hF := g_t hF h3
      refine j_lv [1] rfl ?_
      exact hO _ (g_inj hF)
    · replace hF := g_f hF h3
      refine j_blk (pc' := 14) (lv' := [(0, .ref a0), (1, .int x4_1), (2, .int x4_2)]) (st' := [.ref a0, .int x4_1]) E b_c2_allCosts_12_2 rfl ?_
      replace hF := obd_at hF
      obtain ⟨v4, ev4, hF⟩ := hF
      refine j_getf E fg_RX2_11 d_c2_allCosts_14 ev4 ?_
      refine j_blk (pc' := 18) (lv' := [(0, .ref a0), (1, .int x4_1), (2, .int x4_2)]) (st' := [.int x4_2, v4, .int x4_1]) E b_c2_allCosts_17_1 rfl ?_
      replace hF := orf_at hF
      obtain ⟨b5, rfl, hF⟩ := hF
      replace hF := obd_at hF
      obtain ⟨v6, ev6, hF⟩ := hF
      refine j_rald E d_c2_allCosts_18 ev6 ?_
      replace hF := orf_at hF
      obtain ⟨b7, rfl, hF⟩ := hF
      replace hF := obd_at hF
      obtain ⟨v8, ev8, hF⟩ := hF
      refine jv_RX2_42 E hR (by decide) hAA ev8 d_c2_allCosts_19 (Nat.le_of_ble_eq_true rfl) ⟨Nat.zero_le _, Nat.zero_le _⟩ ?_
      refine j_blk (pc' := 27) (lv' := [(2, .int (x4_2 + Int32.ofInt 1)), (1, .int (x4_1 + v8)), (0, .ref a0)]) (st' := []) E b_c2_allCosts_22_3 rfl ?_
      refine j_goto (tgt := 4) E d_c2_allCosts_27 (by decide) ?_
      refine j_lv [2, 1, 0] rfl ?_
      exact hI _ (g_inj hF)
  refine lpo1 FU (Int32.ofInt 0, Int32.ofInt 0) o1 ho1 ?_
  obtain ⟨e4_1, rfl⟩ : ∃ z, z = o1 := ⟨_, rfl⟩
  show J Γ 3 (HS κ A s0) 0 0 30 [(1, .int e4_1)] []
  refine j_blk (pc' := 31) (lv' := [(1, .int e4_1)]) (st' := [.int e4_1]) E b_c2_allCosts_30_1 rfl ?_
  have e : res = e4_1 := g_inj hF
  subst e
  exact j_iret E hQ d_c2_allCosts_31 (fun _ h => h)
theorem b_c2_wrongOfThree_0_2 : bdec cX2_wrongOfThree 0 [.aload_n 0, .iload_n 1] = true := by decide +kernel
theorem d_c2_wrongOfThree_2 : decode cX2_wrongOfThree 2 = .ok (.invokevirtual 28, 3) := by decide +kernel
theorem d_c2_wrongOfThree_5 : decode cX2_wrongOfThree 5 = .ok (.ifCond .ne 5, 3) := by decide +kernel
theorem b_c2_wrongOfThree_10_3 : bdec cX2_wrongOfThree 10 [.aload_n 0, .iload_n 1, .iload_n 2] = true := by decide +kernel
theorem d_c2_wrongOfThree_13 : decode cX2_wrongOfThree 13 = .ok (.invokevirtual 85, 3) := by decide +kernel
theorem d_c2_wrongOfThree_16 : decode cX2_wrongOfThree 16 = .ok (.ifCond .ne 5, 3) := by decide +kernel
theorem b_c2_wrongOfThree_21_2 : bdec cX2_wrongOfThree 21 [.aload_n 0, .iload_n 3] = true := by decide +kernel
theorem d_c2_wrongOfThree_23 : decode cX2_wrongOfThree 23 = .ok (.invokevirtual 28, 3) := by decide +kernel
theorem d_c2_wrongOfThree_26 : decode cX2_wrongOfThree 26 = .ok (.ifCond .eq 20, 3) := by decide +kernel
theorem b_c2_wrongOfThree_46_1 : bdec cX2_wrongOfThree 46 [.iconst 2] = true := by decide +kernel
theorem d_c2_wrongOfThree_47 : decode cX2_wrongOfThree 47 = .ok (.ireturn, 1) := by decide +kernel
theorem b_c2_wrongOfThree_29_2 : bdec cX2_wrongOfThree 29 [.aload_n 0, .aload_n 0] = true := by decide +kernel
theorem d_c2_wrongOfThree_31 : decode cX2_wrongOfThree 31 = .ok (.invokevirtual 78, 3) := by decide +kernel
theorem b_c2_wrongOfThree_34_2 : bdec cX2_wrongOfThree 34 [.iload_n 1, .iload_n 2] = true := by decide +kernel
theorem d_c2_wrongOfThree_36 : decode cX2_wrongOfThree 36 = .ok (.invokevirtual 81, 3) := by decide +kernel
theorem b_c2_wrongOfThree_39_4 : bdec cX2_wrongOfThree 39 [.iload_n 3, .ishr, .iconst 1, .iand] = true := by decide +kernel
theorem d_c2_wrongOfThree_43 : decode cX2_wrongOfThree 43 = .ok (.ifCond .ne 5, 3) := by decide +kernel
theorem b_c2_wrongOfThree_48_1 : bdec cX2_wrongOfThree 48 [.iconst (-1)] = true := by decide +kernel
theorem d_c2_wrongOfThree_49 : decode cX2_wrongOfThree 49 = .ok (.ireturn, 1) := by decide +kernel
theorem b_c2_wrongOfThree_19_1 : bdec cX2_wrongOfThree 19 [.iconst 1] = true := by decide +kernel
theorem d_c2_wrongOfThree_20 : decode cX2_wrongOfThree 20 = .ok (.ireturn, 1) := by decide +kernel
theorem b_c2_wrongOfThree_8_1 : bdec cX2_wrongOfThree 8 [.iconst 0] = true := by decide +kernel
theorem d_c2_wrongOfThree_9 : decode cX2_wrongOfThree 9 = .ok (.ireturn, 1) := by decide +kernel
def f2_wrongOfThree (s0 : HM) (a0 : Nat) (p1 : Int32) (p2 : Int32) (p3 : Int32) : Option (Int32) := ocl s0 a0 2 (obd (f2_has s0 a0 p1) (fun v2 => if v2 = 0 then (some (Int32.ofInt 0)) else (ocl s0 a0 2 (obd (f2_hasBoth s0 a0 p1 p2) (fun v5 => if v5 = 0 then (some (Int32.ofInt 1)) else (ocl s0 a0 2 (obd (f2_has s0 a0 p3) (fun v8 => if v8 = 0 then (some (Int32.ofInt 2)) else (ocl s0 a0 2 (obd (f2_counting s0 a0) (fun v11 => ocl s0 a0 2 (obd (f2_mastersAmong s0 a0 v11 p1 p2) (fun v13 => if ((v13 >>> (p3 &&& 31)) &&& (Int32.ofInt 1)) = 0 then (some (Int32.ofInt 2)) else (some (Int32.ofInt (-1))))))))))))))))
set_option maxRecDepth 100000 in
set_option maxHeartbeats 4000000 in
theorem c2_wrongOfThree (l : Launch) (κ : KP) (A : Nat → Prop) (s0 : HM) (a0 : Nat) (p1 : Int32) (p2 : Int32) (p3 : Int32) {res : Int32} (hF : f2_wrongOfThree s0 a0 p1 p2 p3 = some res) : Met l yX2_wrongOfThree (Cond.code yX2_wrongOfThree cX2_wrongOfThree 4 (some .int) :: WT) (rmL 3 0 0) (PP κ A [.ref a0, .int p1, .int p2, .int p3] (HS κ A s0)) (QQ (some (.int res)) (HS κ A s0) A) 0 0 A := by
  refine met_of (own := RX2) (by decide) rfl (Nat.le_of_ble_eq_true rfl) ?_
  intro Γ E hQ hL hR hA hent hini
  have hAA : ∀ q, A q → jA Γ q := fun q h => by rw [hA]; exact h
  have hroom : ∀ (d mL : Nat) {mc ms : Nat}, d < 3 → mL ≤ 21 → (rmL d mc ms).frames + 1 ≤ (jR Γ).frames ∧ 8 + (mL + 11) + (rmL d mc ms).locals ≤ (jR Γ).locals := fun d mL mc ms h1 h2 => by rw [hR]; exact rmL_le h1 h2
  show J Γ 4 (HS κ A s0) 0 0 0 [(0, .ref a0), (1, .int p1), (2, .int p2), (3, .int p3)] []
  unfold f2_wrongOfThree at hF
  refine j_blk (pc' := 2) (lv' := [(0, .ref a0), (1, .int p1), (2, .int p2), (3, .int p3)]) (st' := [.int p1, .ref a0]) E b_c2_wrongOfThree_0_2 rfl ?_
  replace hF := ocl_at hF
  obtain ⟨hc, hF⟩ := hF
  replace hF := obd_at hF
  obtain ⟨v2, he1, hF⟩ := hF
  refine j_callv [.int p1] [] E w_RX2_28 (hroom 0 2 (by decide) (by decide)) hAA (c2_has _ κ A _ _ _  he1) (fun _ h => h) (fun _ _ _ h _ _ => h) (fun _ h => j_recv E h hc rfl) rfl rfl (Nat.le_of_ble_eq_true rfl) d_c2_wrongOfThree_2 ⟨Nat.zero_le _, Nat.zero_le _⟩ ?_
  refine j_if_ne (tgt := 10) E d_c2_wrongOfThree_5 (by decide) (fun h3 => ?_) (fun h3 => ?_)
  · replace hF := g_f hF h3
    refine j_blk (pc' := 13) (lv' := [(0, .ref a0), (1, .int p1), (2, .int p2), (3, .int p3)]) (st' := [.int p2, .int p1, .ref a0]) E b_c2_wrongOfThree_10_3 rfl ?_
    replace hF := ocl_at hF
    obtain ⟨hc, hF⟩ := hF
    replace hF := obd_at hF
    obtain ⟨v5, he4, hF⟩ := hF
    refine j_callv [.int p1, .int p2] [] E w_RX2_85 (hroom 1 3 (by decide) (by decide)) hAA (c2_hasBoth _ κ A _ _ _ _  he4) (fun _ h => h) (fun _ _ _ h _ _ => h) (fun _ h => j_recv E h hc rfl) rfl rfl (Nat.le_of_ble_eq_true rfl) d_c2_wrongOfThree_13 ⟨Nat.zero_le _, Nat.zero_le _⟩ ?_
    refine j_if_ne (tgt := 21) E d_c2_wrongOfThree_16 (by decide) (fun h6 => ?_) (fun h6 => ?_)
    · replace hF := g_f hF h6
      refine j_blk (pc' := 23) (lv' := [(0, .ref a0), (1, .int p1), (2, .int p2), (3, .int p3)]) (st' := [.int p3, .ref a0]) E b_c2_wrongOfThree_21_2 rfl ?_
      replace hF := ocl_at hF
      obtain ⟨hc, hF⟩ := hF
      replace hF := obd_at hF
      obtain ⟨v8, he7, hF⟩ := hF
      refine j_callv [.int p3] [] E w_RX2_28 (hroom 0 2 (by decide) (by decide)) hAA (c2_has _ κ A _ _ _  he7) (fun _ h => h) (fun _ _ _ h _ _ => h) (fun _ h => j_recv E h hc rfl) rfl rfl (Nat.le_of_ble_eq_true rfl) d_c2_wrongOfThree_23 ⟨Nat.zero_le _, Nat.zero_le _⟩ ?_
      refine j_if_eq (tgt := 46) E d_c2_wrongOfThree_26 (by decide) (fun h9 => ?_) (fun h9 => ?_)
      · replace hF := g_t hF h9
        refine j_blk (pc' := 47) (lv' := [(0, .ref a0), (1, .int p1), (2, .int p2), (3, .int p3)]) (st' := [.int (Int32.ofInt 2)]) E b_c2_wrongOfThree_46_1 rfl ?_
        have e : res = Int32.ofInt 2 := g_inj hF
        subst e
        exact j_iret E hQ d_c2_wrongOfThree_47 (fun _ h => h)
      · replace hF := g_f hF h9
        refine j_blk (pc' := 31) (lv' := [(0, .ref a0), (1, .int p1), (2, .int p2), (3, .int p3)]) (st' := [.ref a0, .ref a0]) E b_c2_wrongOfThree_29_2 rfl ?_
        replace hF := ocl_at hF
        obtain ⟨hc, hF⟩ := hF
        replace hF := obd_at hF
        obtain ⟨v11, he10, hF⟩ := hF
        refine j_callv [] [.ref a0] E w_RX2_78 (hroom 2 3 (by decide) (by decide)) hAA (c2_counting _ κ A _ _  he10) (fun _ h => h) (fun _ _ _ h _ _ => h) (fun _ h => j_recv E h hc rfl) rfl rfl (Nat.le_of_ble_eq_true rfl) d_c2_wrongOfThree_31 ⟨Nat.zero_le _, Nat.zero_le _⟩ ?_
        refine j_blk (pc' := 36) (lv' := [(0, .ref a0), (1, .int p1), (2, .int p2), (3, .int p3)]) (st' := [.int p2, .int p1, .int v11, .ref a0]) E b_c2_wrongOfThree_34_2 rfl ?_
        replace hF := ocl_at hF
        obtain ⟨hc, hF⟩ := hF
        replace hF := obd_at hF
        obtain ⟨v13, he12, hF⟩ := hF
        refine j_callv [.int v11, .int p1, .int p2] [] E w_RX2_81 (hroom 0 4 (by decide) (by decide)) hAA (c2_mastersAmong _ κ A _ _ _ _ _  he12) (fun _ h => h) (fun _ _ _ h _ _ => h) (fun _ h => j_recv E h hc rfl) rfl rfl (Nat.le_of_ble_eq_true rfl) d_c2_wrongOfThree_36 ⟨Nat.zero_le _, Nat.zero_le _⟩ ?_
        refine j_blk (pc' := 43) (lv' := [(0, .ref a0), (1, .int p1), (2, .int p2), (3, .int p3)]) (st' := [.int ((v13 >>> (p3 &&& 31)) &&& (Int32.ofInt 1))]) E b_c2_wrongOfThree_39_4 rfl ?_
        refine j_if_ne (tgt := 48) E d_c2_wrongOfThree_43 (by decide) (fun h14 => ?_) (fun h14 => ?_)
        · replace hF := g_f hF h14
          refine j_blk (pc' := 49) (lv' := [(0, .ref a0), (1, .int p1), (2, .int p2), (3, .int p3)]) (st' := [.int (Int32.ofInt (-1))]) E b_c2_wrongOfThree_48_1 rfl ?_
          have e : res = Int32.ofInt (-1) := g_inj hF
          subst e
          exact j_iret E hQ d_c2_wrongOfThree_49 (fun _ h => h)
        · replace hF := g_t hF h14
          refine j_blk (pc' := 47) (lv' := [(0, .ref a0), (1, .int p1), (2, .int p2), (3, .int p3)]) (st' := [.int (Int32.ofInt 2)]) E b_c2_wrongOfThree_46_1 rfl ?_
          have e : res = Int32.ofInt 2 := g_inj hF
          subst e
          exact j_iret E hQ d_c2_wrongOfThree_47 (fun _ h => h)
    · replace hF := g_t hF h6
      refine j_blk (pc' := 20) (lv' := [(0, .ref a0), (1, .int p1), (2, .int p2), (3, .int p3)]) (st' := [.int (Int32.ofInt 1)]) E b_c2_wrongOfThree_19_1 rfl ?_
      have e : res = Int32.ofInt 1 := g_inj hF
      subst e
      exact j_iret E hQ d_c2_wrongOfThree_20 (fun _ h => h)
  · replace hF := g_t hF h3
    refine j_blk (pc' := 9) (lv' := [(0, .ref a0), (1, .int p1), (2, .int p2), (3, .int p3)]) (st' := [.int (Int32.ofInt 0)]) E b_c2_wrongOfThree_8_1 rfl ?_
    have e : res = Int32.ofInt 0 := g_inj hF
    subst e
    exact j_iret E hQ d_c2_wrongOfThree_9 (fun _ h => h)
theorem b_c2_isLawful_0_1 : bdec cX2_isLawful 0 [.aload_n 0] = true := by decide +kernel
theorem d_c2_isLawful_1 : decode cX2_isLawful 1 = .ok (.getfield 25, 3) := by decide +kernel
theorem b_c2_isLawful_4_1 : bdec cX2_isLawful 4 [.iconst 1] = true := by decide +kernel
theorem d_c2_isLawful_5 : decode cX2_isLawful 5 = .ok (.if_icmp .ne 10, 3) := by decide +kernel
theorem b_c2_isLawful_15_1 : bdec cX2_isLawful 15 [.aload_n 0] = true := by decide +kernel
theorem d_c2_isLawful_16 : decode cX2_isLawful 16 = .ok (.invokevirtual 75, 3) := by decide +kernel
theorem b_c2_isLawful_19_1 : bdec cX2_isLawful 19 [.bipush (-4)] = true := by decide +kernel
theorem d_c2_isLawful_21 : decode cX2_isLawful 21 = .ok (.if_icmp .ne 7, 3) := by decide +kernel
theorem b_c2_isLawful_28_1 : bdec cX2_isLawful 28 [.iconst 0] = true := by decide +kernel
theorem d_c2_isLawful_29 : decode cX2_isLawful 29 = .ok (.ireturn, 1) := by decide +kernel
theorem b_c2_isLawful_24_1 : bdec cX2_isLawful 24 [.iconst 1] = true := by decide +kernel
theorem d_c2_isLawful_25 : decode cX2_isLawful 25 = .ok (.goto 4, 3) := by decide +kernel
theorem b_c2_isLawful_8_1 : bdec cX2_isLawful 8 [.aload_n 0] = true := by decide +kernel
theorem d_c2_isLawful_9 : decode cX2_isLawful 9 = .ok (.invokevirtual 71, 3) := by decide +kernel
theorem d_c2_isLawful_12 : decode cX2_isLawful 12 = .ok (.goto 17, 3) := by decide +kernel
def f2_isLawful (s0 : HM) (a0 : Nat) : Option (Int32) := obd (hfi s0 [2] 3 a0) (fun v1 => if v1 = (Int32.ofInt 1) then (ocl s0 a0 2 (obd (f2_eachHasMaster s0 a0) (fun v7 => ogd (isB v7) (some v7)))) else (ocl s0 a0 2 (obd (f2_firstOrphanPair s0 a0) (fun v4 => if v4 = ((Int8.ofInt (-4)).toInt32) then (some (Int32.ofInt 1)) else (some (Int32.ofInt 0))))))
set_option maxRecDepth 100000 in
set_option maxHeartbeats 4000000 in
theorem c2_isLawful (l : Launch) (κ : KP) (A : Nat → Prop) (s0 : HM) (a0 : Nat) {res : Int32} (hF : f2_isLawful s0 a0 = some res) : Met l yX2_isLawful (Cond.code yX2_isLawful cX2_isLawful 1 (some .boolean) :: WT) (rmL 4 0 0) (PP κ A [.ref a0] (HS κ A s0)) (QQ (some (.int res)) (HS κ A s0) A) 0 0 A := by
  refine met_of (own := RX2) (by decide) rfl (Nat.le_of_ble_eq_true rfl) ?_
  intro Γ E hQ hL hR hA hent hini
  have hAA : ∀ q, A q → jA Γ q := fun q h => by rw [hA]; exact h
  have hroom : ∀ (d mL : Nat) {mc ms : Nat}, d < 4 → mL ≤ 21 → (rmL d mc ms).frames + 1 ≤ (jR Γ).frames ∧ 8 + (mL + 11) + (rmL d mc ms).locals ≤ (jR Γ).locals := fun d mL mc ms h1 h2 => by rw [hR]; exact rmL_le h1 h2
  show J Γ 1 (HS κ A s0) 0 0 0 [(0, .ref a0)] []
  unfold f2_isLawful at hF
  refine j_blk (pc' := 1) (lv' := [(0, .ref a0)]) (st' := [.ref a0]) E b_c2_isLawful_0_1 rfl ?_
  replace hF := obd_at hF
  obtain ⟨v1, ev1, hF⟩ := hF
  refine j_getI E fg_RX2_25 d_c2_isLawful_1 ev1 ?_
  refine j_blk (pc' := 5) (lv' := [(0, .ref a0)]) (st' := [.int (Int32.ofInt 1), .int v1]) E b_c2_isLawful_4_1 rfl ?_
  refine j_icmp_ne (tgt := 15) E d_c2_isLawful_5 (by decide) (fun h2 => ?_) (fun h2 => ?_)
  · replace hF := g_f hF h2
    refine j_blk (pc' := 16) (lv' := [(0, .ref a0)]) (st' := [.ref a0]) E b_c2_isLawful_15_1 rfl ?_
    replace hF := ocl_at hF
    obtain ⟨hc, hF⟩ := hF
    replace hF := obd_at hF
    obtain ⟨v4, he3, hF⟩ := hF
    refine j_callv [] [] E w_RX2_75 (hroom 3 4 (by decide) (by decide)) hAA (c2_firstOrphanPair _ κ A _ _  he3) (fun _ h => h) (fun _ _ _ h _ _ => h) (fun _ h => j_recv E h hc rfl) rfl rfl (Nat.le_of_ble_eq_true rfl) d_c2_isLawful_16 ⟨Nat.zero_le _, Nat.zero_le _⟩ ?_
    refine j_blk (pc' := 21) (lv' := [(0, .ref a0)]) (st' := [.int ((Int8.ofInt (-4)).toInt32), .int v4]) E b_c2_isLawful_19_1 rfl ?_
    refine j_icmp_ne (tgt := 28) E d_c2_isLawful_21 (by decide) (fun h5 => ?_) (fun h5 => ?_)
    · replace hF := g_f hF h5
      refine j_blk (pc' := 29) (lv' := [(0, .ref a0)]) (st' := [.int (Int32.ofInt 0)]) E b_c2_isLawful_28_1 rfl ?_
      have e : res = Int32.ofInt 0 := g_inj hF
      subst e
      exact j_zret E hQ nb_0 d_c2_isLawful_29 (fun _ h => h)
    · replace hF := g_t hF h5
      refine j_blk (pc' := 25) (lv' := [(0, .ref a0)]) (st' := [.int (Int32.ofInt 1)]) E b_c2_isLawful_24_1 rfl ?_
      refine j_goto (tgt := 29) E d_c2_isLawful_25 (by decide) ?_
      have e : res = Int32.ofInt 1 := g_inj hF
      subst e
      exact j_zret E hQ nb_1 d_c2_isLawful_29 (fun _ h => h)
  · replace hF := g_t hF h2
    refine j_blk (pc' := 9) (lv' := [(0, .ref a0)]) (st' := [.ref a0]) E b_c2_isLawful_8_1 rfl ?_
    replace hF := ocl_at hF
    obtain ⟨hc, hF⟩ := hF
    replace hF := obd_at hF
    obtain ⟨v7, he6, hF⟩ := hF
    refine j_callv [] [] E w_RX2_71 (hroom 3 3 (by decide) (by decide)) hAA (c2_eachHasMaster _ κ A _ _  he6) (fun _ h => h) (fun _ _ _ h _ _ => h) (fun _ h => j_recv E h hc rfl) rfl rfl (Nat.le_of_ble_eq_true rfl) d_c2_isLawful_9 ⟨Nat.zero_le _, Nat.zero_le _⟩ ?_
    refine j_goto (tgt := 29) E d_c2_isLawful_12 (by decide) ?_
    replace hF := ogd_at hF
    obtain ⟨hb, hF⟩ := hF
    have e : res = v7 := g_inj hF
    subst e
    exact j_zret E hQ (isB_n hb) d_c2_isLawful_29 (fun _ h => h)
