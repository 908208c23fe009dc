/-! METHODS (by program): what each does, and that its bytecode does it -/
theorem b_c10_row_0_1 : bdec cX10_row 0 [.iload_n 1] = true := by decide +kernel
theorem d_c10_row_1 : decode cX10_row 1 = .ok (.invokestatic 211, 3) := by decide +kernel
theorem d_c10_row_4 : decode cX10_row 4 = .ok (.ifCond .eq 18, 3) := by decide +kernel
theorem b_c10_row_22_1 : bdec cX10_row 22 [.iconst (-1)] = true := by decide +kernel
theorem d_c10_row_23 : decode cX10_row 23 = .ok (.ireturn, 1) := by decide +kernel
theorem b_c10_row_7_1 : bdec cX10_row 7 [.iload_n 2] = true := by decide +kernel
theorem d_c10_row_8 : decode cX10_row 8 = .ok (.ifCond .lt 14, 3) := by decide +kernel
theorem b_c10_row_11_2 : bdec cX10_row 11 [.iload_n 2, .iconst 2] = true := by decide +kernel
theorem d_c10_row_13 : decode cX10_row 13 = .ok (.if_icmp .gt 9, 3) := by decide +kernel
theorem b_c10_row_16_2 : bdec cX10_row 16 [.iload_n 3, .bipush 100] = true := by decide +kernel
theorem d_c10_row_19 : decode cX10_row 19 = .ok (.if_icmp .le 5, 3) := by decide +kernel
theorem b_c10_row_24_1 : bdec cX10_row 24 [.iload_n 3] = true := by decide +kernel
theorem d_c10_row_25 : decode cX10_row 25 = .ok (.ifCond .ge 6, 3) := by decide +kernel
theorem b_c10_row_31_1 : bdec cX10_row 31 [.aload_n 0] = true := by decide +kernel
theorem d_c10_row_32 : decode cX10_row 32 = .ok (.getfield 37, 3) := by decide +kernel
theorem b_c10_row_35_2 : bdec cX10_row 35 [.iload_n 1, .aconst_null] = true := by decide +kernel
theorem d_c10_row_37 : decode cX10_row 37 = .ok (.aastore, 1) := by decide +kernel
theorem b_c10_row_38_1 : bdec cX10_row 38 [.aload_n 0] = true := by decide +kernel
theorem d_c10_row_39 : decode cX10_row 39 = .ok (.getfield 43, 3) := by decide +kernel
theorem b_c10_row_42_1 : bdec cX10_row 42 [.iload_n 1] = true := by decide +kernel
theorem d_c10_row_43 : decode cX10_row 43 = .ok (.new 41, 3) := by decide +kernel
theorem b_c10_row_46_3 : bdec cX10_row 46 [.dup, .iload_n 2, .iload_n 3] = true := by decide +kernel
theorem d_c10_row_49 : decode cX10_row 49 = .ok (.newarray .int, 2) := by decide +kernel
theorem d_c10_row_51 : decode cX10_row 51 = .ok (.invokespecial 226, 3) := by decide +kernel
theorem d_c10_row_54 : decode cX10_row 54 = .ok (.aastore, 1) := by decide +kernel
theorem b_c10_row_55_1 : bdec cX10_row 55 [.iconst 0] = true := by decide +kernel
theorem d_c10_row_56 : decode cX10_row 56 = .ok (.ireturn, 1) := by decide +kernel
theorem b_c10_row_28_1 : bdec cX10_row 28 [.bipush (-14)] = true := by decide +kernel
theorem d_c10_row_30 : decode cX10_row 30 = .ok (.ireturn, 1) := by decide +kernel
def f10_row (s0 : HM) (a0 : Nat) (p1 : Int32) (p2 : Int32) (p3 : Int32) : Option (Int32 × HM) := obd (f10_isShelf p1) (fun v2 => if v2 = 0 then (some (Int32.ofInt (-1), s0)) else (if p2 < 0 then (some (Int32.ofInt (-1), s0)) else (if (Int32.ofInt 2) < p2 then (some (Int32.ofInt (-1), s0)) else (if p3 ≤ ((Int8.ofInt 100).toInt32) then (if 0 ≤ p3 then (obd (hfld s0 [10] 5 a0) (fun v8 => orf v8 (fun b9 => obd (hrst s0 b9 p1 .null) (fun s10 => obd (hfld s10 [10] 6 a0) (fun v11 => ogd (szB p3) (orf v11 (fun b12 => obd (f8_init (hnew (hnew s10 (.inl (8, [.int 0, .null]))) (.inr (.inl (p3.toNatClampNeg, fun _ => 0)))) s10.2 p2 ((hnew s10 (.inl (8, [.int 0, .null]))).2)) (fun s14 => obd (hrst s14 b12 p1 (.ref s10.2)) (fun s15 => some (Int32.ofInt 0, s15)))))))))) else (some ((Int8.ofInt (-14)).toInt32, s0))) else (some (Int32.ofInt (-1), s0))))))
set_option maxRecDepth 100000 in
set_option maxHeartbeats 4000000 in
theorem c10_row (l : Launch) (κ : KP) (A : Nat → Prop) (hκ : kF κ = true) (s0 : HM) (a0 : Nat) (p1 : Int32) (p2 : Int32) (p3 : Int32) {res : Int32 × HM} (hF : f10_row s0 a0 p1 p2 p3 = some res) : Met l yX10_row (Cond.code yX10_row cX10_row 4 (some .int) :: WT) (rmL 2 2 102) (PP κ A [.ref a0, .int p1, .int p2, .int p3] (HS κ A s0)) (QQ (some (.int res.1)) (HS κ A res.2) A) 2 102 A := by
  refine met_of (own := RX10) (by decide) rfl (Nat.le_of_ble_eq_true rfl) ?_
  intro Γ E hQ hL hR hA hent hini
  have hAA : ∀ q, A q → jA Γ q := fun q h => by rw [hA]; exact h
  have hroom : ∀ (d mL : Nat) {mc ms : Nat}, d < 2 → mL ≤ 21 → (rmL d mc ms).frames + 1 ≤ (jR Γ).frames ∧ 8 + (mL + 11) + (rmL d mc ms).locals ≤ (jR Γ).locals := fun d mL mc ms h1 h2 => by rw [hR]; exact rmL_le h1 h2
  show J Γ 4 (HS κ A s0) 0 0 0 [(0, .ref a0), (1, .int p1), (2, .int p2), (3, .int p3)] []
  unfold f10_row at hF
  refine j_blk (pc' := 1) (lv' := [(0, .ref a0), (1, .int p1), (2, .int p2), (3, .int p3)]) (st' := [.int p1]) E b_c10_row_0_1 rfl ?_
  replace hF := obd_at hF
  obtain ⟨v2, he1, hF⟩ := hF
  refine j_calls [.int p1] [] E w_RX10_211 (hroom 0 1 (by decide) (by decide)) hAA (c10_isShelf _ κ A (HS κ A s0) _  he1) (fun _ h => h) (fun _ _ _ h _ _ => h) rfl rfl (Nat.le_of_ble_eq_true rfl) d_c10_row_1 ⟨Nat.zero_le _, Nat.zero_le _⟩ ?_
  refine j_if_eq (tgt := 22) E d_c10_row_4 (by decide) (fun h3 => ?_) (fun h3 => ?_)
  · replace hF := g_t hF h3
    refine j_blk (pc' := 23) (lv' := [(0, .ref a0), (1, .int p1), (2, .int p2), (3, .int p3)]) (st' := [.int (Int32.ofInt (-1))]) E b_c10_row_22_1 rfl ?_
    have e : res = (Int32.ofInt (-1), s0) := g_inj hF
    subst e
    refine j_wid (k' := 2) (n' := 102) (by decide) (by decide) ?_
    exact j_iret E hQ d_c10_row_23 (fun _ h => h)
  · replace hF := g_f hF h3
    refine j_blk (pc' := 8) (lv' := [(0, .ref a0), (1, .int p1), (2, .int p2), (3, .int p3)]) (st' := [.int p2]) E b_c10_row_7_1 rfl ?_
    refine j_if_lt (tgt := 22) E d_c10_row_8 (by decide) (fun h4 => ?_) (fun h4 => ?_)
    · replace hF := g_t hF h4
      refine j_blk (pc' := 23) (lv' := [(0, .ref a0), (1, .int p1), (2, .int p2), (3, .int p3)]) (st' := [.int (Int32.ofInt (-1))]) E b_c10_row_22_1 rfl ?_
      have e : res = (Int32.ofInt (-1), s0) := g_inj hF
      subst e
      refine j_wid (k' := 2) (n' := 102) (by decide) (by decide) ?_
      exact j_iret E hQ d_c10_row_23 (fun _ h => h)
    · replace hF := g_f hF h4
      refine j_blk (pc' := 13) (lv' := [(0, .ref a0), (1, .int p1), (2, .int p2), (3, .int p3)]) (st' := [.int (Int32.ofInt 2), .int p2]) E b_c10_row_11_2 rfl ?_
      refine j_icmp_gt (tgt := 22) E d_c10_row_13 (by decide) (fun h5 => ?_) (fun h5 => ?_)
      · replace hF := g_t hF h5
        refine j_blk (pc' := 23) (lv' := [(0, .ref a0), (1, .int p1), (2, .int p2), (3, .int p3)]) (st' := [.int (Int32.ofInt (-1))]) E b_c10_row_22_1 rfl ?_
        have e : res = (Int32.ofInt (-1), s0) := g_inj hF
        subst e
        refine j_wid (k' := 2) (n' := 102) (by decide) (by decide) ?_
        exact j_iret E hQ d_c10_row_23 (fun _ h => h)
      · replace hF := g_f hF h5
        refine j_blk (pc' := 19) (lv' := [(0, .ref a0), (1, .int p1), (2, .int p2), (3, .int p3)]) (st' := [.int ((Int8.ofInt 100).toInt32), .int p3]) E b_c10_row_16_2 rfl ?_
        refine j_icmp_le (tgt := 24) E d_c10_row_19 (by decide) (fun h6 => ?_) (fun h6 => ?_)
        · replace hF := g_t hF h6
          refine j_blk (pc' := 25) (lv' := [(0, .ref a0), (1, .int p1), (2, .int p2), (3, .int p3)]) (st' := [.int p3]) E b_c10_row_24_1 rfl ?_
          refine j_if_ge (tgt := 31) E d_c10_row_25 (by decide) (fun h7 => ?_) (fun h7 => ?_)
          · replace hF := g_t hF h7
            refine j_blk (pc' := 32) (lv' := [(0, .ref a0), (1, .int p1), (2, .int p2), (3, .int p3)]) (st' := [.ref a0]) E b_c10_row_31_1 rfl ?_
            replace hF := obd_at hF
            obtain ⟨v8, ev8, hF⟩ := hF
            refine j_getf E fg_RX10_37 d_c10_row_32 ev8 ?_
            refine j_blk (pc' := 37) (lv' := [(0, .ref a0), (1, .int p1), (2, .int p2), (3, .int p3)]) (st' := [.null, .int p1, v8]) E b_c10_row_35_2 rfl ?_
            replace hF := orf_at hF
            obtain ⟨b9, rfl, hF⟩ := hF
            replace hF := obd_at hF
            obtain ⟨s10, es10, hF⟩ := hF
            refine j_rast E ra_ok d_c10_row_37 es10 hAA ?_
            refine j_blk (pc' := 39) (lv' := [(0, .ref a0), (1, .int p1), (2, .int p2), (3, .int p3)]) (st' := [.ref a0]) E b_c10_row_38_1 rfl ?_
            replace hF := obd_at hF
            obtain ⟨v11, ev11, hF⟩ := hF
            refine j_getf E fg_RX10_43 d_c10_row_39 ev11 ?_
            refine j_blk (pc' := 43) (lv' := [(0, .ref a0), (1, .int p1), (2, .int p2), (3, .int p3)]) (st' := [.int p1, v11]) E b_c10_row_42_1 rfl ?_
            refine j_new (ci := 8) (fs := [.int 0, .null]) E rfl ⟨m_116, m_625, m_57⟩ ux_8 tyX8_ok (dv_8) d_c10_row_43 (by rw [hR]; decide) (by rw [hR]; decide) hκ ?_
            refine j_blk (pc' := 49) (lv' := [(0, .ref a0), (1, .int p1), (2, .int p2), (3, .int p3)]) (st' := [.int p3, .int p2, .ref s10.2, .ref s10.2, .int p1, v11]) E b_c10_row_46_3 rfl ?_
            replace hF := ogd_at hF
            obtain ⟨hm, hF⟩ := hF
            obtain ⟨hm1, hm2⟩ := sz_ok hm
            refine j_newa (N := p3.toNatClampNeg) E m_115 hm1 rfl (by omega) d_c10_row_49 (by rw [hR]; decide) (by rw [hR]; show _ ≤ 102; omega) hκ ?_
            refine j_wid (k' := 2) (n' := 102) (by omega) (by omega) ?_
            replace hF := orf_at hF
            obtain ⟨b12, rfl, hF⟩ := hF
            replace hF := obd_at hF
            obtain ⟨s14, he13, hF⟩ := hF
            refine j_calli [.int p2, .ref ((hnew s10 (.inl (8, [.int 0, .null]))).2)] [.ref s10.2, .int p1, .ref b12] E w_RX10_226 (hroom 1 3 (by decide) (by decide)) hAA (c8_init _ κ A _ _ _ _  he13) (fun _ h => h) (fun _ _ _ h _ _ => h) rfl rfl (Nat.le_of_ble_eq_true rfl) d_c10_row_51 ⟨by rw [hR]; decide, by rw [hR]; decide⟩ ?_
            replace hF := obd_at hF
            obtain ⟨s15, es15, hF⟩ := hF
            refine j_rast E ra_ok d_c10_row_54 es15 hAA ?_
            refine j_blk (pc' := 56) (lv' := [(0, .ref a0), (1, .int p1), (2, .int p2), (3, .int p3)]) (st' := [.int (Int32.ofInt 0)]) E b_c10_row_55_1 rfl ?_
            have e : res = (Int32.ofInt 0, s15) := g_inj hF
            subst e
            refine j_wid (k' := 2) (n' := 102) (by decide) (by decide) ?_
            exact j_iret E hQ d_c10_row_56 (fun _ h => h)
          · replace hF := g_f hF h7
            refine j_blk (pc' := 30) (lv' := [(0, .ref a0), (1, .int p1), (2, .int p2), (3, .int p3)]) (st' := [.int ((Int8.ofInt (-14)).toInt32)]) E b_c10_row_28_1 rfl ?_
            have e : res = ((Int8.ofInt (-14)).toInt32, s0) := g_inj hF
            subst e
            refine j_wid (k' := 2) (n' := 102) (by decide) (by decide) ?_
            exact j_iret E hQ d_c10_row_30 (fun _ h => h)
        · replace hF := g_f hF h6
          refine j_blk (pc' := 23) (lv' := [(0, .ref a0), (1, .int p1), (2, .int p2), (3, .int p3)]) (st' := [.int (Int32.ofInt (-1))]) E b_c10_row_22_1 rfl ?_
          have e : res = (Int32.ofInt (-1), s0) := g_inj hF
          subst e
          refine j_wid (k' := 2) (n' := 102) (by decide) (by decide) ?_
          exact j_iret E hQ d_c10_row_23 (fun _ h => h)
theorem b_c10_league_0_2 : bdec cX10_league 0 [.aload_n 0, .iload_n 1] = true := by decide +kernel
theorem d_c10_league_2 : decode cX10_league 2 = .ok (.invokevirtual 51, 3) := by decide +kernel
theorem b_c10_league_5_2 : bdec cX10_league 5 [.astore_n 2, .aload_n 2] = true := by decide +kernel
theorem d_c10_league_7 : decode cX10_league 7 = .ok (.ifnonnull 9, 3) := by decide +kernel
theorem b_c10_league_10_2 : bdec cX10_league 10 [.aload_n 0, .iload_n 1] = true := by decide +kernel
theorem d_c10_league_12 : decode cX10_league 12 = .ok (.invokevirtual 55, 3) := by decide +kernel
theorem d_c10_league_15 : decode cX10_league 15 = .ok (.ireturn, 1) := by decide +kernel
theorem b_c10_league_16_1 : bdec cX10_league 16 [.aload_n 2] = true := by decide +kernel
theorem d_c10_league_17 : decode cX10_league 17 = .ok (.invokestatic 59, 3) := by decide +kernel
theorem b_c10_league_20_2 : bdec cX10_league 20 [.istore_n 3, .iload_n 3] = true := by decide +kernel
theorem d_c10_league_22 : decode cX10_league 22 = .ok (.ifCond .lt 9, 3) := by decide +kernel
theorem b_c10_league_31_1 : bdec cX10_league 31 [.aload_n 0] = true := by decide +kernel
theorem d_c10_league_32 : decode cX10_league 32 = .ok (.getfield 27, 3) := by decide +kernel
theorem b_c10_league_35_1 : bdec cX10_league 35 [.aload_n 0] = true := by decide +kernel
theorem d_c10_league_36 : decode cX10_league 36 = .ok (.getfield 23, 3) := by decide +kernel
theorem d_c10_league_39 : decode cX10_league 39 = .ok (.invokevirtual 63, 3) := by decide +kernel
theorem b_c10_league_42_4 : bdec cX10_league 42 [.iconst 0, .istore 4, .iconst 0, .istore 5] = true := by decide +kernel
theorem b_c10_league_48_2 : bdec cX10_league 48 [.iload 5, .aload_n 2] = true := by decide +kernel
theorem d_c10_league_51 : decode cX10_league 51 = .ok (.invokevirtual 67, 3) := by decide +kernel
theorem d_c10_league_54 : decode cX10_league 54 = .ok (.if_icmp .ge 67, 3) := by decide +kernel
theorem b_c10_league_57_3 : bdec cX10_league 57 [.aload_n 0, .aload_n 2, .iload 5] = true := by decide +kernel
theorem d_c10_league_61 : decode cX10_league 61 = .ok (.invokevirtual 71, 3) := by decide +kernel
theorem b_c10_league_64_4 : bdec cX10_league 64 [.aload_n 2, .iload 5, .iconst 1, .iadd] = true := by decide +kernel
theorem d_c10_league_69 : decode cX10_league 69 = .ok (.invokevirtual 71, 3) := by decide +kernel
theorem b_c10_league_72_6 : bdec cX10_league 72 [.bipush 48, .isub, .aload_n 2, .iload 5, .iconst 2, .iadd] = true := by decide +kernel
theorem d_c10_league_80 : decode cX10_league 80 = .ok (.invokevirtual 71, 3) := by decide +kernel
theorem b_c10_league_83_2 : bdec cX10_league 83 [.bipush 48, .isub] = true := by decide +kernel
theorem d_c10_league_86 : decode cX10_league 86 = .ok (.invokevirtual 74, 3) := by decide +kernel
theorem d_c10_league_89 : decode cX10_league 89 = .ok (.ifCond .ne 10, 3) := by decide +kernel
theorem b_c10_league_99_4 : bdec cX10_league 99 [.iinc 4 1, .iload 5, .aload_n 2, .iload 5] = true := by decide +kernel
theorem d_c10_league_107 : decode cX10_league 107 = .ok (.invokevirtual 71, 3) := by decide +kernel
theorem d_c10_league_110 : decode cX10_league 110 = .ok (.invokestatic 78, 3) := by decide +kernel
theorem b_c10_league_113_4 : bdec cX10_league 113 [.iconst 2, .iadd, .iadd, .istore 5] = true := by decide +kernel
theorem d_c10_league_118 : decode cX10_league 118 = .ok (.goto (-70), 3) := by decide +kernel
theorem b_c10_league_92_3 : bdec cX10_league 92 [.sipush (-2000), .iload 5, .isub] = true := by decide +kernel
theorem d_c10_league_98 : decode cX10_league 98 = .ok (.ireturn, 1) := by decide +kernel
theorem b_c10_league_121_1 : bdec cX10_league 121 [.aload_n 0] = true := by decide +kernel
theorem d_c10_league_122 : decode cX10_league 122 = .ok (.getfield 23, 3) := by decide +kernel
theorem b_c10_league_125_1 : bdec cX10_league 125 [.aload_n 0] = true := by decide +kernel
theorem d_c10_league_126 : decode cX10_league 126 = .ok (.getfield 27, 3) := by decide +kernel
theorem d_c10_league_129 : decode cX10_league 129 = .ok (.invokevirtual 63, 3) := by decide +kernel
theorem b_c10_league_132_1 : bdec cX10_league 132 [.iload 4] = true := by decide +kernel
theorem d_c10_league_134 : decode cX10_league 134 = .ok (.ireturn, 1) := by decide +kernel
theorem b_c10_league_25_3 : bdec cX10_league 25 [.sipush (-1000), .iload_n 3, .isub] = true := by decide +kernel
theorem d_c10_league_30 : decode cX10_league 30 = .ok (.ireturn, 1) := by decide +kernel
def f10_league_L48 (a0 : Nat) (b3 : Nat) (w : Int32 × Int32 × HM) : Option ((Int32 × Int32 × HM) ⊕ ((Int32 × HM) ⊕ (Int32 × HM))) := match w with
  | (x48_4, x48_5, s48) => ocl s48 b3 8 (obd (f8_size s48 b3) (fun v17 => if v17 ≤ x48_5 then (some (.inr (.inr (x48_4, s48)))) else (ocl s48 b3 8 (obd (f8_at s48 b3 x48_5) (fun v20 => ocl s48 b3 8 (obd (f8_at s48 b3 (x48_5 + (Int32.ofInt 1))) (fun v22 => ocl s48 b3 8 (obd (f8_at s48 b3 (x48_5 + (Int32.ofInt 2))) (fun v24 => ocl s48 a0 10 (obd (f10_draftFollows s48 a0 v20 (v22 - ((Int8.ofInt 48).toInt32)) (v24 - ((Int8.ofInt 48).toInt32))) (fun e25 => match e25 with | (v27, s26) => if v27 = 0 then (some (.inr (.inl (((Int16.ofInt (-2000)).toInt32) - x48_5, s26)))) else (ocl s26 b3 8 (obd (f8_at s26 b3 x48_5) (fun v30 => obd (f10_digitsBehind v30) (fun v32 => some (.inl (x48_4 + Int32.ofInt 1, x48_5 + (v32 + (Int32.ofInt 2)), s26)))))))))))))))))
def f10_league (s0 : HM) (a0 : Nat) (p1 : Int32) : Option (Int32 × HM) := ocl s0 a0 10 (obd (f10_bytesOn s0 a0 p1) (fun v2 => onl v2 (ocl s0 a0 10 (obd (f10_whyNotOn s0 a0 p1) (fun v5 => some (v5, s0)))) (fun b3 => obd (f10_brokenPlace s0 b3) (fun v7 => if v7 < 0 then (obd (hfld s0 [10] 2 a0) (fun v9 => obd (hfld s0 [10] 1 a0) (fun v10 => orf v10 (fun b11 => orf v9 (fun b12 => ocl s0 b12 2 (obd (f2_become s0 b12 b11) (fun s14 => obd (iter (f10_league_L48 a0 b3) 101 (Int32.ofInt 0, Int32.ofInt 0, s14)) (fun o15 => osm o15 (fun o15 => some o15) (fun o15 => match o15 with | (e48_4, t48) => obd (hfld t48 [10] 1 a0) (fun v33 => obd (hfld t48 [10] 2 a0) (fun v34 => orf v34 (fun b35 => orf v33 (fun b36 => ocl t48 b36 2 (obd (f2_become t48 b36 b35) (fun s38 => some (e48_4, s38)))))))))))))))) else (some (((Int16.ofInt (-1000)).toInt32) - v7, s0))))))
set_option maxRecDepth 100000 in
set_option maxHeartbeats 4000000 in
theorem c10_league (l : Launch) (κ : KP) (A : Nat → Prop) (hκ : kF κ = true) (s0 : HM) (a0 : Nat) (p1 : Int32) {res : Int32 × HM} (hF : f10_league s0 a0 p1 = some res) : Met l yX10_league (Cond.code yX10_league cX10_league 6 (some .int) :: WT) (rmL 6 101 101) (PP κ A [.ref a0, .int p1] (HS κ A s0)) (QQ (some (.int res.1)) (HS κ A res.2) A) 101 101 A := by
  refine met_of (own := RX10) (by decide) rfl (Nat.le_of_ble_eq_true rfl) ?_
  intro Γ E hQ hL hR hA hent hini
  have hAA : ∀ q, A q → jA Γ q := fun q h => by rw [hA]; exact h
  have hroom : ∀ (d mL : Nat) {mc ms : Nat}, d < 6 → mL ≤ 21 → (rmL d mc ms).frames + 1 ≤ (jR Γ).frames ∧ 8 + (mL + 11) + (rmL d mc ms).locals ≤ (jR Γ).locals := fun d mL mc ms h1 h2 => by rw [hR]; exact rmL_le h1 h2
  show J Γ 6 (HS κ A s0) 0 0 0 [(0, .ref a0), (1, .int p1)] []
  unfold f10_league at hF
  refine j_blk (pc' := 2) (lv' := [(0, .ref a0), (1, .int p1)]) (st' := [.int p1, .ref a0]) E b_c10_league_0_2 rfl ?_
  replace hF := ocl_at hF
  obtain ⟨hc, hF⟩ := hF
  replace hF := obd_at hF
  obtain ⟨v2, he1, hF⟩ := hF
  refine j_callv [.int p1] [] E w_RX10_51 (hroom 2 3 (by decide) (by decide)) hAA (c10_bytesOn _ κ A _ _ _  he1) (fun _ h => h) (fun _ _ _ h _ _ => h) (fun _ h => j_recv E h hc rfl) rfl rfl (Nat.le_of_ble_eq_true rfl) d_c10_league_2 ⟨Nat.zero_le _, Nat.zero_le _⟩ ?_
  replace hF := onl_at hF
  rcases hF with ⟨rfl, hF⟩ | ⟨b3, rfl, hF⟩
  · skip
    refine j_blk (pc' := 7) (lv' := [(2, .null), (0, .ref a0), (1, .int p1)]) (st' := [.null]) E b_c10_league_5_2 rfl ?_
    refine j_nonnull_n E d_c10_league_7 ?_
    refine j_blk (pc' := 12) (lv' := [(2, .null), (0, .ref a0), (1, .int p1)]) (st' := [.int p1, .ref a0]) E b_c10_league_10_2 rfl ?_
    replace hF := ocl_at hF
    obtain ⟨hc, hF⟩ := hF
    replace hF := obd_at hF
    obtain ⟨v5, he4, hF⟩ := hF
    refine j_callv [.int p1] [] E w_RX10_55 (hroom 3 2 (by decide) (by decide)) hAA (c10_whyNotOn _ κ A _ _ _  he4) (fun _ h => h) (fun _ _ _ h _ _ => h) (fun _ h => j_recv E h hc rfl) rfl rfl (Nat.le_of_ble_eq_true rfl) d_c10_league_12 ⟨Nat.zero_le _, Nat.zero_le _⟩ ?_
    have e : res = (v5, s0) := g_inj hF
    subst e
    refine j_wid (k' := 101) (n' := 101) (by decide) (by decide) ?_
    exact j_iret E hQ d_c10_league_15 (fun _ h => h)
  · skip
    refine j_blk (pc' := 7) (lv' := [(2, .ref b3), (0, .ref a0), (1, .int p1)]) (st' := [.ref b3]) E b_c10_league_5_2 rfl ?_
    refine j_nonnull_y (tgt := 16) E d_c10_league_7 (by decide) ?_
    refine j_blk (pc' := 17) (lv' := [(2, .ref b3), (0, .ref a0), (1, .int p1)]) (st' := [.ref b3]) E b_c10_league_16_1 rfl ?_
    replace hF := obd_at hF
    obtain ⟨v7, he6, hF⟩ := hF
    refine j_calls [.ref b3] [] E w_RX10_59 (hroom 2 5 (by decide) (by decide)) hAA (c10_brokenPlace _ κ A _ _  he6) (fun _ h => h) (fun _ _ _ h _ _ => h) rfl rfl (Nat.le_of_ble_eq_true rfl) d_c10_league_17 ⟨Nat.zero_le _, Nat.zero_le _⟩ ?_
    refine j_blk (pc' := 22) (lv' := [(3, .int v7), (2, .ref b3), (0, .ref a0), (1, .int p1)]) (st' := [.int v7]) E b_c10_league_20_2 rfl ?_
    refine j_if_lt (tgt := 31) E d_c10_league_22 (by decide) (fun h8 => ?_) (fun h8 => ?_)
    · replace hF := g_t hF h8
      refine j_blk (pc' := 32) (lv' := [(3, .int v7), (2, .ref b3), (0, .ref a0), (1, .int p1)]) (st' := [.ref a0]) E b_c10_league_31_1 rfl ?_
      replace hF := obd_at hF
      obtain ⟨v9, ev9, hF⟩ := hF
      refine j_getf E fg_RX10_27 d_c10_league_32 ev9 ?_
      refine j_blk (pc' := 36) (lv' := [(3, .int v7), (2, .ref b3), (0, .ref a0), (1, .int p1)]) (st' := [.ref a0, v9]) E b_c10_league_35_1 rfl ?_
      replace hF := obd_at hF
      obtain ⟨v10, ev10, hF⟩ := hF
      refine j_getf E fg_RX10_23 d_c10_league_36 ev10 ?_
      replace hF := orf_at hF
      obtain ⟨b11, rfl, hF⟩ := hF
      replace hF := orf_at hF
      obtain ⟨b12, rfl, hF⟩ := hF
      replace hF := ocl_at hF
      obtain ⟨hc, hF⟩ := hF
      replace hF := obd_at hF
      obtain ⟨s14, he13, hF⟩ := hF
      refine j_callv [.ref b11] [] E w_RX10_63 (hroom 0 3 (by decide) (by decide)) hAA (c2_become _ κ A _ _ _  he13) (fun _ h => h) (fun _ _ _ h _ _ => h) (fun _ h => j_recv E h hc rfl) rfl rfl (Nat.le_of_ble_eq_true rfl) d_c10_league_39 ⟨Nat.zero_le _, Nat.zero_le _⟩ ?_
      refine j_blk (pc' := 48) (lv' := [(5, .int (Int32.ofInt 0)), (4, .int (Int32.ofInt 0)), (3, .int v7), (2, .ref b3), (0, .ref a0), (1, .int p1)]) (st' := []) E b_c10_league_42_4 rfl ?_
      refine j_lv [4, 3, 1, 0] rfl ?_
      replace hF := obd_at hF
      obtain ⟨o15, ho15, hF⟩ := hF
      have lpo15 : ∀ (fu : Nat) (w : Int32 × Int32 × HM) (o : (Int32 × HM) ⊕ (Int32 × HM)), iter (f10_league_L48 a0 b3) fu w = some o → (fun (o : (Int32 × HM) ⊕ (Int32 × HM)) => match o with | .inl r => r = res | .inr o => J Γ 6 (HS κ A o.2) 101 101 121 [(0, .ref a0), (4, .int o.1)] []) o → (fun (fu : Nat) (w : Int32 × Int32 × HM) => fu ≤ 101 → J Γ 6 (HS κ A w.2.2) (101 - fu) (101 - fu) 48 [(0, .ref a0), (2, .ref b3), (4, .int w.1), (5, .int w.2.1)] []) fu w := by
        refine j_iterA (P := fun (fu : Nat) (w : Int32 × Int32 × HM) => fu ≤ 101 → J Γ 6 (HS κ A w.2.2) (101 - fu) (101 - fu) 48 [(0, .ref a0), (2, .ref b3), (4, .int w.1), (5, .int w.2.1)] []) (G := fun (o : (Int32 × HM) ⊕ (Int32 × HM)) => match o with | .inl r => r = res | .inr o => J Γ 6 (HS κ A o.2) 101 101 121 [(0, .ref a0), (4, .int o.1)] []) ?_
        rintro fu ⟨x48_4, x48_5, s48⟩ q hF hI hO hfu
        show J Γ 6 (HS κ A s48) (101 - (fu + 1)) (101 - (fu + 1)) 48 [(0, .ref a0), (2, .ref b3), (4, .int x48_4), (5, .int x48_5)] []
        unfold f10_league_L48 at hF
        refine j_blk (pc' := 51) (lv' := [(0, .ref a0), (2, .ref b3), (4, .int x48_4), (5, .int x48_5)]) (st' := [.ref b3, .int x48_5]) E b_c10_league_48_2 rfl ?_
        replace hF := ocl_at hF
        obtain ⟨hc, hF⟩ := hF
        replace hF := obd_at hF
        obtain ⟨v17, he16, hF⟩ := hF
        refine j_callv [] [.int x48_5] E w_RX10_67 (hroom 0 1 (by decide) (by decide)) hAA (c8_size _ κ A _ _  he16) (fun _ h => h) (fun _ _ _ h _ _ => h) (fun _ h => j_recv E h hc rfl) rfl rfl (Nat.le_of_ble_eq_true rfl) d_c10_league_51 ⟨by rw [hR]; show _ ≤ 101; omega, by rw [hR]; show _ ≤ 101; omega⟩ ?_
        refine j_icmp_ge (tgt := 121) E d_c10_league_54 (by decide) (fun h18 => ?_) (fun h18 => ?_)
        · replace hF := g_t hF h18
          refine j_lv [0, 2] rfl ?_
          refine j_wid (k' := 101) (n' := 101) (by omega) (by omega) ?_
          exact hO _ (g_inj hF)
        · replace hF := g_f hF h18
          refine j_blk (pc' := 61) (lv' := [(0, .ref a0), (2, .ref b3), (4, .int x48_4), (5, .int x48_5)]) (st' := [.int x48_5, .ref b3, .ref a0]) E b_c10_league_57_3 rfl ?_
          replace hF := ocl_at hF
          obtain ⟨hc, hF⟩ := hF
          replace hF := obd_at hF
          obtain ⟨v20, he19, hF⟩ := hF
          refine j_callv [.int x48_5] [.ref a0] E w_RX10_71 (hroom 1 2 (by decide) (by decide)) hAA (c8_at _ κ A _ _ _  he19) (fun _ h => h) (fun _ _ _ h _ _ => h) (fun _ h => j_recv E h hc rfl) rfl rfl (Nat.le_of_ble_eq_true rfl) d_c10_league_61 ⟨by rw [hR]; show _ ≤ 101; omega, by rw [hR]; show _ ≤ 101; omega⟩ ?_
          refine j_blk (pc' := 69) (lv' := [(0, .ref a0), (2, .ref b3), (4, .int x48_4), (5, .int x48_5)]) (st' := [.int (x48_5 + (Int32.ofInt 1)), .ref b3, .int v20, .ref a0]) E b_c10_league_64_4 rfl ?_
          replace hF := ocl_at hF
          obtain ⟨hc, hF⟩ := hF
          replace hF := obd_at hF
          obtain ⟨v22, he21, hF⟩ := hF
          refine j_callv [.int (x48_5 + (Int32.ofInt 1))] [.int v20, .ref a0] E w_RX10_71 (hroom 1 2 (by decide) (by decide)) hAA (c8_at _ κ A _ _ _  he21) (fun _ h => h) (fun _ _ _ h _ _ => h) (fun _ h => j_recv E h hc rfl) rfl rfl (Nat.le_of_ble_eq_true rfl) d_c10_league_69 ⟨by rw [hR]; show _ ≤ 101; omega, by rw [hR]; show _ ≤ 101; omega⟩ ?_
          refine j_blk (pc' := 80) (lv' := [(0, .ref a0), (2, .ref b3), (4, .int x48_4), (5, .int x48_5)]) (st' := [.int (x48_5 + (Int32.ofInt 2)), .ref b3, .int (v22 - ((Int8.ofInt 48).toInt32)), .int v20, .ref a0]) E b_c10_league_72_6 rfl ?_
          replace hF := ocl_at hF
          obtain ⟨hc, hF⟩ := hF
          replace hF := obd_at hF
          obtain ⟨v24, he23, hF⟩ := hF
          refine j_callv [.int (x48_5 + (Int32.ofInt 2))] [.int (v22 - ((Int8.ofInt 48).toInt32)), .int v20, .ref a0] E w_RX10_71 (hroom 1 2 (by decide) (by decide)) hAA (c8_at _ κ A _ _ _  he23) (fun _ h => h) (fun _ _ _ h _ _ => h) (fun _ h => j_recv E h hc rfl) rfl rfl (Nat.le_of_ble_eq_true rfl) d_c10_league_80 ⟨by rw [hR]; show _ ≤ 101; omega, by rw [hR]; show _ ≤ 101; omega⟩ ?_
          refine j_blk (pc' := 86) (lv' := [(0, .ref a0), (2, .ref b3), (4, .int x48_4), (5, .int x48_5)]) (st' := [.int (v24 - ((Int8.ofInt 48).toInt32)), .int (v22 - ((Int8.ofInt 48).toInt32)), .int v20, .ref a0]) E b_c10_league_83_2 rfl ?_
          replace hF := ocl_at hF
          obtain ⟨hc, hF⟩ := hF
          replace hF := obd_at hF
          obtain ⟨⟨v27, s26⟩, he25, hF⟩ := hF
          refine j_callv [.int v20, .int (v22 - ((Int8.ofInt 48).toInt32)), .int (v24 - ((Int8.ofInt 48).toInt32))] [] E w_RX10_74 (hroom 5 4 (by decide) (by decide)) hAA (c10_draftFollows _ κ A hκ _ _ _ _ _ he25) (fun _ h => h) (fun _ _ _ h _ _ => h) (fun _ h => j_recv E h hc rfl) rfl rfl (Nat.le_of_ble_eq_true rfl) d_c10_league_86 ⟨by rw [hR]; show _ ≤ 101; omega, by rw [hR]; show _ ≤ 101; omega⟩ ?_
          refine j_if_ne (tgt := 99) E d_c10_league_89 (by decide) (fun h28 => ?_) (fun h28 => ?_)
          · replace hF := g_f hF h28
            refine j_blk (pc' := 107) (lv' := [(4, .int (x48_4 + Int32.ofInt 1)), (0, .ref a0), (2, .ref b3), (5, .int x48_5)]) (st' := [.int x48_5, .ref b3, .int x48_5]) E b_c10_league_99_4 rfl ?_
            replace hF := ocl_at hF
            obtain ⟨hc, hF⟩ := hF
            replace hF := obd_at hF
            obtain ⟨v30, he29, hF⟩ := hF
            refine j_callv [.int x48_5] [.int x48_5] E w_RX10_71 (hroom 1 2 (by decide) (by decide)) hAA (c8_at _ κ A _ _ _  he29) (fun _ h => h) (fun _ _ _ h _ _ => h) (fun _ h => j_recv E h hc rfl) rfl rfl (Nat.le_of_ble_eq_true rfl) d_c10_league_107 ⟨by rw [hR]; show _ ≤ 101; omega, by rw [hR]; show _ ≤ 101; omega⟩ ?_
            replace hF := obd_at hF
            obtain ⟨v32, he31, hF⟩ := hF
            refine j_calls [.int v30] [.int x48_5] E w_RX10_78 (hroom 0 1 (by decide) (by decide)) hAA (c10_digitsBehind _ κ A (HS κ A s26) _  he31) (fun _ h => h) (fun _ _ _ h _ _ => h) rfl rfl (Nat.le_of_ble_eq_true rfl) d_c10_league_110 ⟨by rw [hR]; show _ ≤ 101; omega, by rw [hR]; show _ ≤ 101; omega⟩ ?_
            refine j_blk (pc' := 118) (lv' := [(5, .int (x48_5 + (v32 + (Int32.ofInt 2)))), (4, .int (x48_4 + Int32.ofInt 1)), (0, .ref a0), (2, .ref b3)]) (st' := []) E b_c10_league_113_4 rfl ?_
            refine j_goto (tgt := 48) E d_c10_league_118 (by decide) ?_
            refine j_lv [2, 3, 1, 0] rfl ?_
            refine j_wid (k' := 101 - fu) (n' := 101 - fu) (by omega) (by omega) ?_
            exact hI _ (g_inj hF) (by omega)
          · replace hF := g_t hF h28
            refine j_blk (pc' := 98) (lv' := [(0, .ref a0), (2, .ref b3), (4, .int x48_4), (5, .int x48_5)]) (st' := [.int (((Int16.ofInt (-2000)).toInt32) - x48_5)]) E b_c10_league_92_3 rfl ?_
            have e : (((Int16.ofInt (-2000)).toInt32) - x48_5, s26) = res := hO _ (g_inj hF)
            subst e
            refine j_wid (k' := 101) (n' := 101) (by omega) (by omega) ?_
            exact j_iret E hQ d_c10_league_98 (fun _ h => h)
      refine lpo15 101 (Int32.ofInt 0, Int32.ofInt 0, s14) o15 ho15 ?_ (Nat.le_refl _)
      rcases o15 with o15 | o15
      · exact (g_inj hF).symm
      · obtain ⟨e48_4, t48⟩ := o15
        show J Γ 6 (HS κ A t48) 101 101 121 [(0, .ref a0), (4, .int e48_4)] []
        refine j_blk (pc' := 122) (lv' := [(0, .ref a0), (4, .int e48_4)]) (st' := [.ref a0]) E b_c10_league_121_1 rfl ?_
        replace hF := obd_at hF
        obtain ⟨v33, ev33, hF⟩ := hF
        refine j_getf E fg_RX10_23 d_c10_league_122 ev33 ?_
        refine j_blk (pc' := 126) (lv' := [(0, .ref a0), (4, .int e48_4)]) (st' := [.ref a0, v33]) E b_c10_league_125_1 rfl ?_
        replace hF := obd_at hF
        obtain ⟨v34, ev34, hF⟩ := hF
        refine j_getf E fg_RX10_27 d_c10_league_126 ev34 ?_
        replace hF := orf_at hF
        obtain ⟨b35, rfl, hF⟩ := hF
        replace hF := orf_at hF
        obtain ⟨b36, rfl, hF⟩ := hF
        replace hF := ocl_at hF
        obtain ⟨hc, hF⟩ := hF
        replace hF := obd_at hF
        obtain ⟨s38, he37, hF⟩ := hF
        refine j_callv [.ref b35] [] E w_RX10_63 (hroom 0 3 (by decide) (by decide)) hAA (c2_become _ κ A _ _ _  he37) (fun _ h => h) (fun _ _ _ h _ _ => h) (fun _ h => j_recv E h hc rfl) rfl rfl (Nat.le_of_ble_eq_true rfl) d_c10_league_129 ⟨by rw [hR]; decide, by rw [hR]; decide⟩ ?_
        refine j_blk (pc' := 134) (lv' := [(0, .ref a0), (4, .int e48_4)]) (st' := [.int e48_4]) E b_c10_league_132_1 rfl ?_
        have e : res = (e48_4, s38) := g_inj hF
        subst e
        refine j_wid (k' := 101) (n' := 101) (by decide) (by decide) ?_
        exact j_iret E hQ d_c10_league_134 (fun _ h => h)
    · replace hF := g_f hF h8
      refine j_blk (pc' := 30) (lv' := [(3, .int v7), (2, .ref b3), (0, .ref a0), (1, .int p1)]) (st' := [.int (((Int16.ofInt (-1000)).toInt32) - v7)]) E b_c10_league_25_3 rfl ?_
      have e : res = (((Int16.ofInt (-1000)).toInt32) - v7, s0) := g_inj hF
      subst e
      refine j_wid (k' := 101) (n' := 101) (by decide) (by decide) ?_
      exact j_iret E hQ d_c10_league_30 (fun _ h => h)
theorem b_c11_tries_0_1 : bdec cX11_tries 0 [.aload_n 0] = true := by decide +kernel
theorem d_c11_tries_1 : decode cX11_tries 1 = .ok (.invokevirtual 153, 3) := by decide +kernel
theorem d_c11_tries_4 : decode cX11_tries 4 = .ok (.ifCond .eq 43, 3) := by decide +kernel
theorem b_c11_tries_47_2 : bdec cX11_tries 47 [.iload_n 2, .iconst 3] = true := by decide +kernel
theorem d_c11_tries_49 : decode cX11_tries 49 = .ok (.if_icmp .ne 4, 3) := by decide +kernel
theorem b_c11_tries_53_2 : bdec cX11_tries 53 [.iload_n 1, .istore 4] = true := by decide +kernel
theorem b_c11_tries_56_2 : bdec cX11_tries 56 [.iload 4, .aload_n 0] = true := by decide +kernel
theorem d_c11_tries_59 : decode cX11_tries 59 = .ok (.getfield 9, 3) := by decide +kernel
theorem b_c11_tries_62_1 : bdec cX11_tries 62 [.iconst 0] = true := by decide +kernel
theorem d_c11_tries_63 : decode cX11_tries 63 = .ok (.iaload, 1) := by decide +kernel
theorem b_c11_tries_64_1 : bdec cX11_tries 64 [.aload_n 0] = true := by decide +kernel
theorem d_c11_tries_65 : decode cX11_tries 65 = .ok (.getfield 9, 3) := by decide +kernel
theorem b_c11_tries_68_1 : bdec cX11_tries 68 [.iconst 0] = true := by decide +kernel
theorem d_c11_tries_69 : decode cX11_tries 69 = .ok (.iaload, 1) := by decide +kernel
theorem b_c11_tries_70_1 : bdec cX11_tries 70 [.imul] = true := by decide +kernel
theorem d_c11_tries_71 : decode cX11_tries 71 = .ok (.if_icmp .ge 113, 3) := by decide +kernel
theorem b_c11_tries_74_2 : bdec cX11_tries 74 [.iload 4, .aload_n 0] = true := by decide +kernel
theorem d_c11_tries_77 : decode cX11_tries 77 = .ok (.getfield 9, 3) := by decide +kernel
theorem b_c11_tries_80_1 : bdec cX11_tries 80 [.iconst 0] = true := by decide +kernel
theorem d_c11_tries_81 : decode cX11_tries 81 = .ok (.iaload, 1) := by decide +kernel
theorem d_c11_tries_82 : decode cX11_tries 82 = .ok (.idiv, 1) := by decide +kernel
theorem b_c11_tries_83_3 : bdec cX11_tries 83 [.istore 5, .iload 4, .aload_n 0] = true := by decide +kernel
theorem d_c11_tries_88 : decode cX11_tries 88 = .ok (.getfield 9, 3) := by decide +kernel
theorem b_c11_tries_91_1 : bdec cX11_tries 91 [.iconst 0] = true := by decide +kernel
theorem d_c11_tries_92 : decode cX11_tries 92 = .ok (.iaload, 1) := by decide +kernel
theorem d_c11_tries_93 : decode cX11_tries 93 = .ok (.irem, 1) := by decide +kernel
theorem b_c11_tries_94_3 : bdec cX11_tries 94 [.istore 6, .iload 5, .iload 6] = true := by decide +kernel
theorem d_c11_tries_100 : decode cX11_tries 100 = .ok (.if_icmp .lt 6, 3) := by decide +kernel
theorem b_c11_tries_106_2 : bdec cX11_tries 106 [.aload_n 0, .iload 5] = true := by decide +kernel
theorem d_c11_tries_109 : decode cX11_tries 109 = .ok (.invokevirtual 63, 3) := by decide +kernel
theorem b_c11_tries_112_5 : bdec cX11_tries 112 [.iload 6, .ishr, .iconst 1, .iand, .iconst 1] = true := by decide +kernel
theorem d_c11_tries_118 : decode cX11_tries 118 = .ok (.if_icmp .ne 8, 3) := by decide +kernel
theorem b_c11_tries_128_3 : bdec cX11_tries 128 [.istore 7, .aload_n 0, .iload 7] = true := by decide +kernel
theorem d_c11_tries_133 : decode cX11_tries 133 = .ok (.invokevirtual 73, 3) := by decide +kernel
theorem b_c11_tries_136_2 : bdec cX11_tries 136 [.aload_n 0, .iload 7] = true := by decide +kernel
theorem d_c11_tries_139 : decode cX11_tries 139 = .ok (.invokevirtual 70, 3) := by decide +kernel
theorem d_c11_tries_142 : decode cX11_tries 142 = .ok (.invokestatic 147, 3) := by decide +kernel
theorem b_c11_tries_145_4 : bdec cX11_tries 145 [.istore 8, .aload_n 0, .iload 5, .iload 6] = true := by decide +kernel
theorem d_c11_tries_152 : decode cX11_tries 152 = .ok (.invokevirtual 156, 3) := by decide +kernel
theorem b_c11_tries_155_10 : bdec cX11_tries 155 [.aload_n 0, .iload 4, .iconst 1, .iadd, .iload_n 2, .iconst 1, .iadd, .iload_n 3, .iload 8, .iadd] = true := by decide +kernel
theorem d_c11_tries_167 : decode cX11_tries 167 = .ok (.invokevirtual 169, 3) := by decide +kernel
theorem b_c11_tries_170_3 : bdec cX11_tries 170 [.aload_n 0, .iload 5, .iload 6] = true := by decide +kernel
theorem d_c11_tries_175 : decode cX11_tries 175 = .ok (.invokevirtual 156, 3) := by decide +kernel
theorem b_c11_tries_178_1 : bdec cX11_tries 178 [.iinc 4 1] = true := by decide +kernel
theorem d_c11_tries_181 : decode cX11_tries 181 = .ok (.goto (-125), 3) := by decide +kernel
theorem b_c11_tries_126_1 : bdec cX11_tries 126 [.iload 6] = true := by decide +kernel
theorem b_c11_tries_121_1 : bdec cX11_tries 121 [.iload 5] = true := by decide +kernel
theorem d_c11_tries_123 : decode cX11_tries 123 = .ok (.goto 5, 3) := by decide +kernel
theorem d_c11_tries_103 : decode cX11_tries 103 = .ok (.goto 75, 3) := by decide +kernel
theorem d_c11_tries_184 : decode cX11_tries 184 = .ok (.return_, 1) := by decide +kernel
theorem d_c11_tries_52 : decode cX11_tries 52 = .ok (.return_, 1) := by decide +kernel
theorem b_c11_tries_7_1 : bdec cX11_tries 7 [.aload_n 0] = true := by decide +kernel
theorem d_c11_tries_8 : decode cX11_tries 8 = .ok (.getfield 163, 3) := by decide +kernel
theorem d_c11_tries_11 : decode cX11_tries 11 = .ok (.ifCond .lt 11, 3) := by decide +kernel
theorem b_c11_tries_27_1 : bdec cX11_tries 27 [.aload_n 0] = true := by decide +kernel
theorem d_c11_tries_28 : decode cX11_tries 28 = .ok (.getfield 166, 3) := by decide +kernel
theorem d_c11_tries_31 : decode cX11_tries 31 = .ok (.ifCond .lt 11, 3) := by decide +kernel
theorem b_c11_tries_42_2 : bdec cX11_tries 42 [.aload_n 0, .iload_n 3] = true := by decide +kernel
theorem d_c11_tries_44 : decode cX11_tries 44 = .ok (.putfield 166, 3) := by decide +kernel
theorem b_c11_tries_34_2 : bdec cX11_tries 34 [.iload_n 3, .aload_n 0] = true := by decide +kernel
theorem d_c11_tries_36 : decode cX11_tries 36 = .ok (.getfield 166, 3) := by decide +kernel
theorem d_c11_tries_39 : decode cX11_tries 39 = .ok (.if_icmp .ge 8, 3) := by decide +kernel
theorem b_c11_tries_22_2 : bdec cX11_tries 22 [.aload_n 0, .iload_n 2] = true := by decide +kernel
theorem d_c11_tries_24 : decode cX11_tries 24 = .ok (.putfield 163, 3) := by decide +kernel
theorem b_c11_tries_14_2 : bdec cX11_tries 14 [.iload_n 2, .aload_n 0] = true := by decide +kernel
theorem d_c11_tries_16 : decode cX11_tries 16 = .ok (.getfield 163, 3) := by decide +kernel
theorem d_c11_tries_19 : decode cX11_tries 19 = .ok (.if_icmp .ge 8, 3) := by decide +kernel
def f11_tries_K128 (rec : HM → Nat → Int32 → Int32 → Int32 → Option (HM)) (s56 : HM) (a0 : Nat) (p2 : Int32) (p3 : Int32) (x56_4 : Int32) (k128_5 : Int32) (k128_6 : Int32) (k128_t0 : Int32) : Option ((Int32 × HM) ⊕ (HM)) := ocl s56 a0 11 (obd (f11_kind s56 a0 k128_t0) (fun v22 => ocl s56 a0 11 (obd (f11_figure s56 a0 k128_t0) (fun v24 => obd (f11_priceBy v22 v24) (fun v26 => ocl s56 a0 11 (obd (f11_turns s56 a0 k128_5 k128_6) (fun s28 => ocl s28 a0 11 (obd (rec s28 a0 (x56_4 + (Int32.ofInt 1)) (p2 + (Int32.ofInt 1)) (p3 + v26)) (fun s30 => ocl s30 a0 11 (obd (f11_turns s30 a0 k128_5 k128_6) (fun s32 => some (.inl (x56_4 + Int32.ofInt 1, s32)))))))))))))
def f11_tries_L56 (rec : HM → Nat → Int32 → Int32 → Int32 → Option (HM)) (a0 : Nat) (p2 : Int32) (p3 : Int32) (w : Int32 × HM) : Option ((Int32 × HM) ⊕ (HM)) := match w with
  | (x56_4, s56) => obd (hfld s56 [11] 0 a0) (fun v5 => orf v5 (fun b6 => obd (hald s56 b6 (Int32.ofInt 0)) (fun v7 => obd (hfld s56 [11] 0 a0) (fun v8 => orf v8 (fun b9 => obd (hald s56 b9 (Int32.ofInt 0)) (fun v10 => if (v7 * v10) ≤ x56_4 then (some (.inr s56)) else (obd (hfld s56 [11] 0 a0) (fun v12 => orf v12 (fun b13 => obd (hald s56 b13 (Int32.ofInt 0)) (fun v14 => onz v14 (obd (hfld s56 [11] 0 a0) (fun v15 => orf v15 (fun b16 => obd (hald s56 b16 (Int32.ofInt 0)) (fun v17 => onz v17 (if (x56_4 / v14) < (x56_4 - x56_4 / v17 * v17) then (ocl s56 a0 11 (obd (f11_beaten s56 a0 (x56_4 / v14)) (fun v20 => if ((v20 >>> ((x56_4 - x56_4 / v17 * v17) &&& 31)) &&& (Int32.ofInt 1)) = (Int32.ofInt 1) then (f11_tries_K128 rec s56 a0 p2 p3 x56_4 (x56_4 / v14) (x56_4 - x56_4 / v17 * v17) (x56_4 / v14)) else (f11_tries_K128 rec s56 a0 p2 p3 x56_4 (x56_4 / v14) (x56_4 - x56_4 / v17 * v17) (x56_4 - x56_4 / v17 * v17))))) else (some (.inl (x56_4 + Int32.ofInt 1, s56))))))))))))))))))
def f11_tries_K47 (rec : HM → Nat → Int32 → Int32 → Int32 → Option (HM)) (k47s : HM) (a0 : Nat) (p1 : Int32) (p2 : Int32) (p3 : Int32) : Option (HM) := if p2 = (Int32.ofInt 3) then (some k47s) else (obd (iter (f11_tries_L56 rec a0 p2 p3) FU (p1, k47s)) (fun o4 => match o4 with | t56 => some t56))
def f11_tries_K27 (rec : HM → Nat → Int32 → Int32 → Int32 → Option (HM)) (k27s : HM) (a0 : Nat) (p1 : Int32) (p2 : Int32) (p3 : Int32) : Option (HM) := obd (hfi k27s [11] 17 a0) (fun v36 => if v36 < 0 then (obd (hput k27s [11] 17 a0 (.int p3)) (fun s38 => f11_tries_K47 rec s38 a0 p1 p2 p3)) else (obd (hfi k27s [11] 17 a0) (fun v39 => if v39 ≤ p3 then (f11_tries_K47 rec k27s a0 p1 p2 p3) else (obd (hput k27s [11] 17 a0 (.int p3)) (fun s41 => f11_tries_K47 rec s41 a0 p1 p2 p3)))))
def f11_tries_K22 (rec : HM → Nat → Int32 → Int32 → Int32 → Option (HM)) (s0 : HM) (a0 : Nat) (p1 : Int32) (p2 : Int32) (p3 : Int32) : Option (HM) := obd (hput s0 [11] 16 a0 (.int p2)) (fun s42 => f11_tries_K27 rec s42 a0 p1 p2 p3)
def f11_tries_B (rec : HM → Nat → Int32 → Int32 → Int32 → Option (HM)) (s0 : HM) (a0 : Nat) (p1 : Int32) (p2 : Int32) (p3 : Int32) : Option (HM) := ocl s0 a0 11 (obd (f11_isLawful s0 a0) (fun v2 => if v2 = 0 then (f11_tries_K47 rec s0 a0 p1 p2 p3) else (obd (hfi s0 [11] 16 a0) (fun v35 => if v35 < 0 then (f11_tries_K22 rec s0 a0 p1 p2 p3) else (obd (hfi s0 [11] 16 a0) (fun v44 => if v44 ≤ p2 then (f11_tries_K27 rec s0 a0 p1 p2 p3) else (f11_tries_K22 rec s0 a0 p1 p2 p3)))))))
def f11_tries : Nat → HM → Nat → Int32 → Int32 → Int32 → Option (HM)
  | 0 => fun _ _ _ _ _ => none
  | fu + 1 => f11_tries_B (f11_tries fu)
set_option maxRecDepth 100000 in
set_option maxHeartbeats 4000000 in
theorem c11_tries_B (l : Launch) (κ : KP) (A : Nat → Prop) (rec : HM → Nat → Int32 → Int32 → Int32 → Option (HM)) (d : Nat) (hd : 4 ≤ d) (hrec : ∀ (l : Launch) (s0 : HM) (a0 : Nat) (p1 : Int32) (p2 : Int32) (p3 : Int32) (res : HM), rec s0 a0 p1 p2 p3 = some res → Met l yX11_tries (Cond.code yX11_tries cX11_tries 9 none :: WT) (rmL d 0 0) (PP κ A [.ref a0, .int p1, .int p2, .int p3] (HS κ A s0)) (QQ none (HS κ A res) A) 0 0 A) (s0 : HM) (a0 : Nat) (p1 : Int32) (p2 : Int32) (p3 : Int32) {res : HM} (hF : f11_tries_B rec s0 a0 p1 p2 p3 = some res) : Met l yX11_tries (Cond.code yX11_tries cX11_tries 9 none :: WT) (rmL (d + 1) 0 0) (PP κ A [.ref a0, .int p1, .int p2, .int p3] (HS κ A s0)) (QQ none (HS κ A res) A) 0 0 A := by
  refine met_of (own := RX11) (by decide) rfl (Nat.le_of_ble_eq_true rfl) ?_
  intro Γ E hQ hL hR hA hent hini
  have hAA : ∀ q, A q → jA Γ q := fun q h => by rw [hA]; exact h
  have hroom : ∀ (e mL : Nat) {mc ms : Nat}, e < d + 1 → mL ≤ 21 → (rmL e mc ms).frames + 1 ≤ (jR Γ).frames ∧ 8 + (mL + 11) + (rmL e mc ms).locals ≤ (jR Γ).locals := fun e mL mc ms h1 h2 => by rw [hR]; exact rmL_le h1 h2
  show J Γ 9 (HS κ A s0) 0 0 0 [(0, .ref a0), (1, .int p1), (2, .int p2), (3, .int p3)] []
  unfold f11_tries_B at hF
  refine j_blk (pc' := 1) (lv' := [(0, .ref a0), (1, .int p1), (2, .int p2), (3, .int p3)]) (st' := [.ref a0]) E b_c11_tries_0_1 rfl ?_
  replace hF := ocl_at hF
  obtain ⟨hc, hF⟩ := hF
  replace hF := obd_at hF
  obtain ⟨v2, he1, hF⟩ := hF
  refine j_callv [] [] E w_RX11_153 (hroom 3 3 (by omega) (by decide)) hAA (c11_isLawful _ κ A _ _  he1) (fun _ h => h) (fun _ _ _ h _ _ => h) (fun _ h => j_recv E h hc rfl) rfl rfl (Nat.le_of_ble_eq_true rfl) d_c11_tries_1 ⟨Nat.zero_le _, Nat.zero_le _⟩ ?_
  have kp47 : ∀ (k47s : HM), f11_tries_K47 rec k47s a0 p1 p2 p3 = some res → J Γ 9 (HS κ A k47s) 0 0 47 [(0, .ref a0), (1, .int p1), (2, .int p2), (3, .int p3)] [] := by
    intro k47s hF
    unfold f11_tries_K47 at hF
    refine j_blk (pc' := 49) (lv' := [(0, .ref a0), (1, .int p1), (2, .int p2), (3, .int p3)]) (st' := [.int (Int32.ofInt 3), .int p2]) E b_c11_tries_47_2 rfl ?_
    refine j_icmp_ne (tgt := 53) E d_c11_tries_49 (by decide) (fun h3 => ?_) (fun h3 => ?_)
    · replace hF := g_f hF h3
      refine j_blk (pc' := 56) (lv' := [(4, .int p1), (0, .ref a0), (1, .int p1), (2, .int p2), (3, .int p3)]) (st' := []) E b_c11_tries_53_2 rfl ?_
      refine j_lv [1, 3, 4, 0] rfl ?_
      replace hF := obd_at hF
      obtain ⟨o4, ho4, hF⟩ := hF
      have lpo4 : ∀ (fu : Nat) (w : Int32 × HM) (o : HM), iter (f11_tries_L56 rec a0 p2 p3) fu w = some o → (fun (o : HM) => J Γ 9 (HS κ A o) 0 0 184 [] []) o → (fun (w : Int32 × HM) => J Γ 9 (HS κ A w.2) 0 0 56 [(0, .ref a0), (2, .int p2), (3, .int p3), (4, .int w.1)] []) w := by
        refine j_iter (P := fun (w : Int32 × HM) => J Γ 9 (HS κ A w.2) 0 0 56 [(0, .ref a0), (2, .int p2), (3, .int p3), (4, .int w.1)] []) (G := fun (o : HM) => J Γ 9 (HS κ A o) 0 0 184 [] []) ?_
        rintro ⟨x56_4, s56⟩ q hF hI hO
        show J Γ 9 (HS κ A s56) 0 0 56 [(0, .ref a0), (2, .int p2), (3, .int p3), (4, .int x56_4)] []
        unfold f11_tries_L56 at hF
        refine j_blk (pc' := 59) (lv' := [(0, .ref a0), (2, .int p2), (3, .int p3), (4, .int x56_4)]) (st' := [.ref a0, .int x56_4]) E b_c11_tries_56_2 rfl ?_
        replace hF := obd_at hF
        obtain ⟨v5, ev5, hF⟩ := hF
        refine j_getf E fg_RX11_9 d_c11_tries_59 ev5 ?_
        refine j_blk (pc' := 63) (lv' := [(0, .ref a0), (2, .int p2), (3, .int p3), (4, .int x56_4)]) (st' := [.int (Int32.ofInt 0), v5, .int x56_4]) E b_c11_tries_62_1 rfl ?_
        replace hF := orf_at hF
        obtain ⟨b6, rfl, hF⟩ := hF
        replace hF := obd_at hF
        obtain ⟨v7, ev7, hF⟩ := hF
        refine j_iald E d_c11_tries_63 ev7 ?_
        refine j_blk (pc' := 65) (lv' := [(0, .ref a0), (2, .int p2), (3, .int p3), (4, .int x56_4)]) (st' := [.ref a0, .int v7, .int x56_4]) E b_c11_tries_64_1 rfl ?_
        replace hF := obd_at hF
        obtain ⟨v8, ev8, hF⟩ := hF
        refine j_getf E fg_RX11_9 d_c11_tries_65 ev8 ?_
        refine j_blk (pc' := 69) (lv' := [(0, .ref a0), (2, .int p2), (3, .int p3), (4, .int x56_4)]) (st' := [.int (Int32.ofInt 0), v8, .int v7, .int x56_4]) E b_c11_tries_68_1 rfl ?_
        replace hF := orf_at hF
        obtain ⟨b9, rfl, hF⟩ := hF
        replace hF := obd_at hF
        obtain ⟨v10, ev10, hF⟩ := hF
        refine j_iald E d_c11_tries_69 ev10 ?_
        refine j_blk (pc' := 71) (lv' := [(0, .ref a0), (2, .int p2), (3, .int p3), (4, .int x56_4)]) (st' := [.int (v7 * v10), .int x56_4]) E b_c11_tries_70_1 rfl ?_
        refine j_icmp_ge (tgt := 184) E d_c11_tries_71 (by decide) (fun h11 => ?_) (fun h11 => ?_)
        · replace hF := g_t hF h11
          refine j_lv [] rfl ?_
          exact hO _ (g_inj hF)
        · replace hF := g_f hF h11
          refine j_blk (pc' := 77) (lv' := [(0, .ref a0), (2, .int p2), (3, .int p3), (4, .int x56_4)]) (st' := [.ref a0, .int x56_4]) E b_c11_tries_74_2 rfl ?_
          replace hF := obd_at hF
          obtain ⟨v12, ev12, hF⟩ := hF
          refine j_getf E fg_RX11_9 d_c11_tries_77 ev12 ?_
          refine j_blk (pc' := 81) (lv' := [(0, .ref a0), (2, .int p2), (3, .int p3), (4, .int x56_4)]) (st' := [.int (Int32.ofInt 0), v12, .int x56_4]) E b_c11_tries_80_1 rfl ?_
          replace hF := orf_at hF
          obtain ⟨b13, rfl, hF⟩ := hF
          replace hF := obd_at hF
          obtain ⟨v14, ev14, hF⟩ := hF
          refine j_iald E d_c11_tries_81 ev14 ?_
          replace hF := onz_at hF
          obtain ⟨h0, hF⟩ := hF
          refine j_idiv E d_c11_tries_82 h0 ?_
          refine j_blk (pc' := 88) (lv' := [(5, .int (x56_4 / v14)), (0, .ref a0), (2, .int p2), (3, .int p3), (4, .int x56_4)]) (st' := [.ref a0, .int x56_4]) E b_c11_tries_83_3 rfl ?_
          replace hF := obd_at hF
          obtain ⟨v15, ev15, hF⟩ := hF
          refine j_getf E fg_RX11_9 d_c11_tries_88 ev15 ?_
          refine j_blk (pc' := 92) (lv' := [(5, .int (x56_4 / v14)), (0, .ref a0), (2, .int p2), (3, .int p3), (4, .int x56_4)]) (st' := [.int (Int32.ofInt 0), v15, .int x56_4]) E b_c11_tries_91_1 rfl ?_
          replace hF := orf_at hF
          obtain ⟨b16, rfl, hF⟩ := hF
          replace hF := obd_at hF
          obtain ⟨v17, ev17, hF⟩ := hF
          refine j_iald E d_c11_tries_92 ev17 ?_
          replace hF := onz_at hF
          obtain ⟨h0, hF⟩ := hF
          refine j_irem E d_c11_tries_93 h0 ?_
          refine j_blk (pc' := 100) (lv' := [(6, .int (x56_4 - x56_4 / v17 * v17)), (5, .int (x56_4 / v14)), (0, .ref a0), (2, .int p2), (3, .int p3), (4, .int x56_4)]) (st' := [.int (x56_4 - x56_4 / v17 * v17), .int (x56_4 / v14)]) E b_c11_tries_94_3 rfl ?_
          refine j_icmp_lt (tgt := 106) E d_c11_tries_100 (by decide) (fun h18 => ?_) (fun h18 => ?_)
          · replace hF := g_t hF h18
            refine j_blk (pc' := 109) (lv' := [(6, .int (x56_4 - x56_4 / v17 * v17)), (5, .int (x56_4 / v14)), (0, .ref a0), (2, .int p2), (3, .int p3), (4, .int x56_4)]) (st' := [.int (x56_4 / v14), .ref a0]) E b_c11_tries_106_2 rfl ?_
            replace hF := ocl_at hF
            obtain ⟨hc, hF⟩ := hF
            replace hF := obd_at hF
            obtain ⟨v20, he19, hF⟩ := hF
            refine j_callv [.int (x56_4 / v14)] [] E w_RX11_63 (hroom 0 2 (by omega) (by decide)) hAA (c11_beaten _ κ A _ _ _  he19) (fun _ h => h) (fun _ _ _ h _ _ => h) (fun _ h => j_recv E h hc rfl) rfl rfl (Nat.le_of_ble_eq_true rfl) d_c11_tries_109 ⟨Nat.zero_le _, Nat.zero_le _⟩ ?_
            refine j_blk (pc' := 118) (lv' := [(6, .int (x56_4 - x56_4 / v17 * v17)), (5, .int (x56_4 / v14)), (0, .ref a0), (2, .int p2), (3, .int p3), (4, .int x56_4)]) (st' := [.int (Int32.ofInt 1), .int ((v20 >>> ((x56_4 - x56_4 / v17 * v17) &&& 31)) &&& (Int32.ofInt 1))]) E b_c11_tries_112_5 rfl ?_
            have kp128 : ∀ (k128_5 : Int32) (k128_6 : Int32) (k128_t0 : Int32), f11_tries_K128 rec s56 a0 p2 p3 x56_4 k128_5 k128_6 k128_t0 = some q → J Γ 9 (HS κ A s56) 0 0 128 [(0, .ref a0), (2, .int p2), (3, .int p3), (4, .int x56_4), (5, .int k128_5), (6, .int k128_6)] [.int k128_t0] := by
              intro k128_5 k128_6 k128_t0 hF
              unfold f11_tries_K128 at hF
              refine j_blk (pc' := 133) (lv' := [(7, .int k128_t0), (0, .ref a0), (2, .int p2), (3, .int p3), (4, .int x56_4), (5, .int k128_5), (6, .int k128_6)]) (st' := [.int k128_t0, .ref a0]) E b_c11_tries_128_3 rfl ?_
              replace hF := ocl_at hF
              obtain ⟨hc, hF⟩ := hF
              replace hF := obd_at hF
              obtain ⟨v22, he21, hF⟩ := hF
              refine j_callv [.int k128_t0] [] E w_RX11_73 (hroom 0 2 (by omega) (by decide)) hAA (c11_kind _ κ A _ _ _  he21) (fun _ h => h) (fun _ _ _ h _ _ => h) (fun _ h => j_recv E h hc rfl) rfl rfl (Nat.le_of_ble_eq_true rfl) d_c11_tries_133 ⟨Nat.zero_le _, Nat.zero_le _⟩ ?_
              refine j_blk (pc' := 139) (lv' := [(7, .int k128_t0), (0, .ref a0), (2, .int p2), (3, .int p3), (4, .int x56_4), (5, .int k128_5), (6, .int k128_6)]) (st' := [.int k128_t0, .ref a0, .int v22]) E b_c11_tries_136_2 rfl ?_
              replace hF := ocl_at hF
              obtain ⟨hc, hF⟩ := hF
              replace hF := obd_at hF
              obtain ⟨v24, he23, hF⟩ := hF
              refine j_callv [.int k128_t0] [.int v22] E w_RX11_70 (hroom 0 2 (by omega) (by decide)) hAA (c11_figure _ κ A _ _ _  he23) (fun _ h => h) (fun _ _ _ h _ _ => h) (fun _ h => j_recv E h hc rfl) rfl rfl (Nat.le_of_ble_eq_true rfl) d_c11_tries_139 ⟨Nat.zero_le _, Nat.zero_le _⟩ ?_
              replace hF := obd_at hF
              obtain ⟨v26, he25, hF⟩ := hF
              refine j_calls [.int v22, .int v24] [] E w_RX11_147 (hroom 0 2 (by omega) (by decide)) hAA (c11_priceBy _ κ A (HS κ A s56) _ _  he25) (fun _ h => h) (fun _ _ _ h _ _ => h) rfl rfl (Nat.le_of_ble_eq_true rfl) d_c11_tries_142 ⟨Nat.zero_le _, Nat.zero_le _⟩ ?_
              refine j_blk (pc' := 152) (lv' := [(8, .int v26), (7, .int k128_t0), (0, .ref a0), (2, .int p2), (3, .int p3), (4, .int x56_4), (5, .int k128_5), (6, .int k128_6)]) (st' := [.int k128_6, .int k128_5, .ref a0]) E b_c11_tries_145_4 rfl ?_
              replace hF := ocl_at hF
              obtain ⟨hc, hF⟩ := hF
              replace hF := obd_at hF
              obtain ⟨s28, he27, hF⟩ := hF
              refine j_callv [.int k128_5, .int k128_6] [] E w_RX11_156 (hroom 2 3 (by omega) (by decide)) hAA (c11_turns _ κ A _ _ _ _  he27) (fun _ h => h) (fun _ _ _ h _ _ => h) (fun _ h => j_recv E h hc rfl) rfl rfl (Nat.le_of_ble_eq_true rfl) d_c11_tries_152 ⟨Nat.zero_le _, Nat.zero_le _⟩ ?_
              refine j_blk (pc' := 167) (lv' := [(8, .int v26), (7, .int k128_t0), (0, .ref a0), (2, .int p2), (3, .int p3), (4, .int x56_4), (5, .int k128_5), (6, .int k128_6)]) (st' := [.int (p3 + v26), .int (p2 + (Int32.ofInt 1)), .int (x56_4 + (Int32.ofInt 1)), .ref a0]) E b_c11_tries_155_10 rfl ?_
              replace hF := ocl_at hF
              obtain ⟨hc, hF⟩ := hF
              replace hF := obd_at hF
              obtain ⟨s30, he29, hF⟩ := hF
              refine j_callv [.int (x56_4 + (Int32.ofInt 1)), .int (p2 + (Int32.ofInt 1)), .int (p3 + v26)] [] E w_RX11_169 (hroom d 9 (by omega) (by decide)) hAA (hrec _ _ _ _ _ _ _ he29) (fun _ h => h) (fun _ _ _ h _ _ => h) (fun _ h => j_recv E h hc rfl) rfl rfl (Nat.le_of_ble_eq_true rfl) d_c11_tries_167 ⟨Nat.zero_le _, Nat.zero_le _⟩ ?_
              refine j_blk (pc' := 175) (lv' := [(8, .int v26), (7, .int k128_t0), (0, .ref a0), (2, .int p2), (3, .int p3), (4, .int x56_4), (5, .int k128_5), (6, .int k128_6)]) (st' := [.int k128_6, .int k128_5, .ref a0]) E b_c11_tries_170_3 rfl ?_
              replace hF := ocl_at hF
              obtain ⟨hc, hF⟩ := hF
              replace hF := obd_at hF
              obtain ⟨s32, he31, hF⟩ := hF
              refine j_callv [.int k128_5, .int k128_6] [] E w_RX11_156 (hroom 2 3 (by omega) (by decide)) hAA (c11_turns _ κ A _ _ _ _  he31) (fun _ h => h) (fun _ _ _ h _ _ => h) (fun _ h => j_recv E h hc rfl) rfl rfl (Nat.le_of_ble_eq_true rfl) d_c11_tries_175 ⟨Nat.zero_le _, Nat.zero_le _⟩ ?_
              refine j_blk (pc' := 181) (lv' := [(4, .int (x56_4 + Int32.ofInt 1)), (8, .int v26), (7, .int k128_t0), (0, .ref a0), (2, .int p2), (3, .int p3), (5, .int k128_5), (6, .int k128_6)]) (st' := []) E b_c11_tries_178_1 rfl ?_
              refine j_goto (tgt := 56) E d_c11_tries_181 (by decide) ?_
              refine j_lv [3, 4, 5, 0] rfl ?_
              exact hI _ (g_inj hF)
            refine j_icmp_ne (tgt := 126) E d_c11_tries_118 (by decide) (fun h33 => ?_) (fun h33 => ?_)
            · replace hF := g_f hF h33
              refine j_blk (pc' := 128) (lv' := [(6, .int (x56_4 - x56_4 / v17 * v17)), (5, .int (x56_4 / v14)), (0, .ref a0), (2, .int p2), (3, .int p3), (4, .int x56_4)]) (st' := [.int (x56_4 - x56_4 / v17 * v17)]) E b_c11_tries_126_1 rfl ?_
              refine j_lv [2, 3, 4, 5, 1, 0] rfl ?_
              exact kp128 (x56_4 / v14) (x56_4 - x56_4 / v17 * v17) (x56_4 - x56_4 / v17 * v17) hF
            · replace hF := g_t hF h33
              refine j_blk (pc' := 123) (lv' := [(6, .int (x56_4 - x56_4 / v17 * v17)), (5, .int (x56_4 / v14)), (0, .ref a0), (2, .int p2), (3, .int p3), (4, .int x56_4)]) (st' := [.int (x56_4 / v14)]) E b_c11_tries_121_1 rfl ?_
              refine j_goto (tgt := 128) E d_c11_tries_123 (by decide) ?_
              refine j_lv [2, 3, 4, 5, 1, 0] rfl ?_
              exact kp128 (x56_4 / v14) (x56_4 - x56_4 / v17 * v17) (x56_4 / v14) hF
          · replace hF := g_f hF h18
            refine j_goto (tgt := 178) E d_c11_tries_103 (by decide) ?_
            refine j_blk (pc' := 181) (lv' := [(4, .int (x56_4 + Int32.ofInt 1)), (6, .int (x56_4 - x56_4 / v17 * v17)), (5, .int (x56_4 / v14)), (0, .ref a0), (2, .int p2), (3, .int p3)]) (st' := []) E b_c11_tries_178_1 rfl ?_
            refine j_goto (tgt := 56) E d_c11_tries_181 (by decide) ?_
            refine j_lv [3, 4, 5, 0] rfl ?_
            exact hI _ (g_inj hF)
      refine lpo4 FU (p1, k47s) o4 ho4 ?_
      obtain ⟨t56, rfl⟩ : ∃ z, z = o4 := ⟨_, rfl⟩
      show J Γ 9 (HS κ A t56) 0 0 184 [] []
      have e : res = t56 := g_inj hF
      subst e
      exact j_vret E hQ d_c11_tries_184 (fun _ h => h)
    · replace hF := g_t hF h3
      have e : res = k47s := g_inj hF
      subst e
      exact j_vret E hQ d_c11_tries_52 (fun _ h => h)
  refine j_if_eq (tgt := 47) E d_c11_tries_4 (by decide) (fun h34 => ?_) (fun h34 => ?_)
  · replace hF := g_t hF h34
    exact kp47 s0 hF
  · replace hF := g_f hF h34
    refine j_blk (pc' := 8) (lv' := [(0, .ref a0), (1, .int p1), (2, .int p2), (3, .int p3)]) (st' := [.ref a0]) E b_c11_tries_7_1 rfl ?_
    replace hF := obd_at hF
    obtain ⟨v35, ev35, hF⟩ := hF
    refine j_getI E fg_RX11_163 d_c11_tries_8 ev35 ?_
    have kp27 : ∀ (k27s : HM), f11_tries_K27 rec k27s a0 p1 p2 p3 = some res → J Γ 9 (HS κ A k27s) 0 0 27 [(0, .ref a0), (1, .int p1), (2, .int p2), (3, .int p3)] [] := by
      intro k27s hF
      unfold f11_tries_K27 at hF
      refine j_blk (pc' := 28) (lv' := [(0, .ref a0), (1, .int p1), (2, .int p2), (3, .int p3)]) (st' := [.ref a0]) E b_c11_tries_27_1 rfl ?_
      replace hF := obd_at hF
      obtain ⟨v36, ev36, hF⟩ := hF
      refine j_getI E fg_RX11_166 d_c11_tries_28 ev36 ?_
      refine j_if_lt (tgt := 42) E d_c11_tries_31 (by decide) (fun h37 => ?_) (fun h37 => ?_)
      · replace hF := g_t hF h37
        refine j_blk (pc' := 44) (lv' := [(0, .ref a0), (1, .int p1), (2, .int p2), (3, .int p3)]) (st' := [.int p3, .ref a0]) E b_c11_tries_42_2 rfl ?_
        replace hF := obd_at hF
        obtain ⟨s38, es38, hF⟩ := hF
        refine j_put E fp_RX11_166 d_c11_tries_44 rfl rfl es38 hAA ?_
        exact kp47 s38 hF
      · replace hF := g_f hF h37
        refine j_blk (pc' := 36) (lv' := [(0, .ref a0), (1, .int p1), (2, .int p2), (3, .int p3)]) (st' := [.ref a0, .int p3]) E b_c11_tries_34_2 rfl ?_
        replace hF := obd_at hF
        obtain ⟨v39, ev39, hF⟩ := hF
        refine j_getI E fg_RX11_166 d_c11_tries_36 ev39 ?_
        refine j_icmp_ge (tgt := 47) E d_c11_tries_39 (by decide) (fun h40 => ?_) (fun h40 => ?_)
        · replace hF := g_t hF h40
          exact kp47 k27s hF
        · replace hF := g_f hF h40
          refine j_blk (pc' := 44) (lv' := [(0, .ref a0), (1, .int p1), (2, .int p2), (3, .int p3)]) (st' := [.int p3, .ref a0]) E b_c11_tries_42_2 rfl ?_
          replace hF := obd_at hF
          obtain ⟨s41, es41, hF⟩ := hF
          refine j_put E fp_RX11_166 d_c11_tries_44 rfl rfl es41 hAA ?_
          exact kp47 s41 hF
    have kp22 : f11_tries_K22 rec s0 a0 p1 p2 p3 = some res → J Γ 9 (HS κ A s0) 0 0 22 [(0, .ref a0), (1, .int p1), (2, .int p2), (3, .int p3)] [] := by
      intro hF
      unfold f11_tries_K22 at hF
      refine j_blk (pc' := 24) (lv' := [(0, .ref a0), (1, .int p1), (2, .int p2), (3, .int p3)]) (st' := [.int p2, .ref a0]) E b_c11_tries_22_2 rfl ?_
      replace hF := obd_at hF
      obtain ⟨s42, es42, hF⟩ := hF
      refine j_put E fp_RX11_163 d_c11_tries_24 rfl rfl es42 hAA ?_
      exact kp27 s42 hF
    refine j_if_lt (tgt := 22) E d_c11_tries_11 (by decide) (fun h43 => ?_) (fun h43 => ?_)
    · replace hF := g_t hF h43
      exact kp22 hF
    · replace hF := g_f hF h43
      refine j_blk (pc' := 16) (lv' := [(0, .ref a0), (1, .int p1), (2, .int p2), (3, .int p3)]) (st' := [.ref a0, .int p2]) E b_c11_tries_14_2 rfl ?_
      replace hF := obd_at hF
      obtain ⟨v44, ev44, hF⟩ := hF
      refine j_getI E fg_RX11_163 d_c11_tries_16 ev44 ?_
      refine j_icmp_ge (tgt := 27) E d_c11_tries_19 (by decide) (fun h45 => ?_) (fun h45 => ?_)
      · replace hF := g_t hF h45
        exact kp27 s0 hF
      · replace hF := g_f hF h45
        exact kp22 hF
theorem c11_tries (l : Launch) (κ : KP) (A : Nat → Prop) (fu : Nat) : ∀ (s0 : HM) (a0 : Nat) (p1 : Int32) (p2 : Int32) (p3 : Int32) {res : HM} (hF : f11_tries fu s0 a0 p1 p2 p3 = some res), Met l yX11_tries (Cond.code yX11_tries cX11_tries 9 none :: WT) (rmL (4 + fu) 0 0) (PP κ A [.ref a0, .int p1, .int p2, .int p3] (HS κ A s0)) (QQ none (HS κ A res) A) 0 0 A := by
  induction fu generalizing l with
  | zero => intro s0 a0 p1 p2 p3 res hF; cases hF
  | succ fu ih => exact fun s0 a0 p1 p2 p3 res hF => c11_tries_B l κ A (f11_tries fu) (4 + fu) (by omega) (fun l s0 a0 p1 p2 p3 res h => ih l s0 a0 p1 p2 p3 h)  s0 a0 p1 p2 p3 hF
theorem b_c10_leastToTurn_0_1 : bdec cX10_leastToTurn 0 [.aload_n 0] = true := by decide +kernel
theorem d_c10_leastToTurn_1 : decode cX10_leastToTurn 1 = .ok (.invokevirtual 133, 3) := by decide +kernel
theorem d_c10_leastToTurn_4 : decode cX10_leastToTurn 4 = .ok (.ifCond .eq 5, 3) := by decide +kernel
theorem b_c10_leastToTurn_9_3 : bdec cX10_leastToTurn 9 [.bipush (-4), .istore 4, .iload_n 2] = true := by decide +kernel
theorem d_c10_leastToTurn_14 : decode cX10_leastToTurn 14 = .ok (.ifCond .gt 6, 3) := by decide +kernel
theorem b_c10_leastToTurn_20_2 : bdec cX10_leastToTurn 20 [.iload_n 1, .istore 5] = true := by decide +kernel
theorem b_c10_leastToTurn_23_2 : bdec cX10_leastToTurn 23 [.iload 5, .aload_n 0] = true := by decide +kernel
theorem d_c10_leastToTurn_26 : decode cX10_leastToTurn 26 = .ok (.invokevirtual 147, 3) := by decide +kernel
theorem d_c10_leastToTurn_29 : decode cX10_leastToTurn 29 = .ok (.if_icmp .ge 96, 3) := by decide +kernel
theorem b_c10_leastToTurn_32_1 : bdec cX10_leastToTurn 32 [.iload_n 3] = true := by decide +kernel
theorem d_c10_leastToTurn_33 : decode cX10_leastToTurn 33 = .ok (.ifCond .eq 12, 3) := by decide +kernel
theorem b_c10_leastToTurn_46_3 : bdec cX10_leastToTurn 46 [.istore 6, .iload 4, .bipush (-4)] = true := by decide +kernel
theorem d_c10_leastToTurn_52 : decode cX10_leastToTurn 52 = .ok (.if_icmp .eq 10, 3) := by decide +kernel
theorem b_c10_leastToTurn_62_2 : bdec cX10_leastToTurn 62 [.aload_n 0, .iload 5] = true := by decide +kernel
theorem d_c10_leastToTurn_65 : decode cX10_leastToTurn 65 = .ok (.invokevirtual 288, 3) := by decide +kernel
theorem b_c10_leastToTurn_68_8 : bdec cX10_leastToTurn 68 [.aload_n 0, .iload 5, .iconst 1, .iadd, .iload_n 2, .iconst 1, .isub, .iload_n 3] = true := by decide +kernel
theorem d_c10_leastToTurn_77 : decode cX10_leastToTurn 77 = .ok (.invokestatic 161, 3) := by decide +kernel
theorem b_c10_leastToTurn_80_3 : bdec cX10_leastToTurn 80 [.istore 7, .aload_n 0, .iload 5] = true := by decide +kernel
theorem d_c10_leastToTurn_85 : decode cX10_leastToTurn 85 = .ok (.invokevirtual 288, 3) := by decide +kernel
theorem b_c10_leastToTurn_88_2 : bdec cX10_leastToTurn 88 [.iload 7, .bipush (-4)] = true := by decide +kernel
theorem d_c10_leastToTurn_92 : decode cX10_leastToTurn 92 = .ok (.if_icmp .eq 27, 3) := by decide +kernel
theorem b_c10_leastToTurn_119_1 : bdec cX10_leastToTurn 119 [.iinc 5 1] = true := by decide +kernel
theorem d_c10_leastToTurn_122 : decode cX10_leastToTurn 122 = .ok (.goto (-99), 3) := by decide +kernel
theorem b_c10_leastToTurn_95_2 : bdec cX10_leastToTurn 95 [.iload 4, .bipush (-4)] = true := by decide +kernel
theorem d_c10_leastToTurn_99 : decode cX10_leastToTurn 99 = .ok (.if_icmp .eq 13, 3) := by decide +kernel
theorem b_c10_leastToTurn_112_5 : bdec cX10_leastToTurn 112 [.iload 6, .iload 7, .iadd, .istore 4, .iinc 5 1] = true := by decide +kernel
theorem b_c10_leastToTurn_102_4 : bdec cX10_leastToTurn 102 [.iload 6, .iload 7, .iadd, .iload 4] = true := by decide +kernel
theorem d_c10_leastToTurn_109 : decode cX10_leastToTurn 109 = .ok (.if_icmp .ge 10, 3) := by decide +kernel
theorem b_c10_leastToTurn_55_2 : bdec cX10_leastToTurn 55 [.iload 6, .iload 4] = true := by decide +kernel
theorem d_c10_leastToTurn_59 : decode cX10_leastToTurn 59 = .ok (.if_icmp .ge 60, 3) := by decide +kernel
theorem b_c10_leastToTurn_45_1 : bdec cX10_leastToTurn 45 [.iconst 1] = true := by decide +kernel
theorem b_c10_leastToTurn_36_2 : bdec cX10_leastToTurn 36 [.aload_n 0, .iload 5] = true := by decide +kernel
theorem d_c10_leastToTurn_39 : decode cX10_leastToTurn 39 = .ok (.invokevirtual 291, 3) := by decide +kernel
theorem d_c10_leastToTurn_42 : decode cX10_leastToTurn 42 = .ok (.goto 4, 3) := by decide +kernel
theorem b_c10_leastToTurn_125_1 : bdec cX10_leastToTurn 125 [.iload 4] = true := by decide +kernel
theorem d_c10_leastToTurn_127 : decode cX10_leastToTurn 127 = .ok (.ireturn, 1) := by decide +kernel
theorem b_c10_leastToTurn_17_1 : bdec cX10_leastToTurn 17 [.iload 4] = true := by decide +kernel
theorem d_c10_leastToTurn_19 : decode cX10_leastToTurn 19 = .ok (.ireturn, 1) := by decide +kernel
theorem b_c10_leastToTurn_7_1 : bdec cX10_leastToTurn 7 [.iconst 0] = true := by decide +kernel
theorem d_c10_leastToTurn_8 : decode cX10_leastToTurn 8 = .ok (.ireturn, 1) := by decide +kernel
def f10_leastToTurn_K62 (rec : HM → Nat → Int32 → Int32 → Int32 → Option (Int32 × HM)) (s23 : HM) (p0 : Nat) (p2 : Int32) (p3 : Int32) (x23_4 : Int32) (k62_5 : Int32) (k46_t0 : Int32) : Option ((Int32 × Int32 × HM) ⊕ (Int32 × HM)) := ocl s23 p0 2 (obd (f2_turn s23 p0 k62_5) (fun s10 => obd (rec s10 p0 (k62_5 + (Int32.ofInt 1)) (p2 - (Int32.ofInt 1)) p3) (fun e11 => match e11 with | (v13, s12) => ocl s12 p0 2 (obd (f2_turn s12 p0 k62_5) (fun s15 => if v13 = ((Int8.ofInt (-4)).toInt32) then (some (.inl (x23_4, k62_5 + Int32.ofInt 1, s15))) else (if x23_4 = ((Int8.ofInt (-4)).toInt32) then (some (.inl (k46_t0 + v13, k62_5 + Int32.ofInt 1, s15))) else (if x23_4 ≤ (k46_t0 + v13) then (some (.inl (x23_4, k62_5 + Int32.ofInt 1, s15))) else (some (.inl (k46_t0 + v13, k62_5 + Int32.ofInt 1, s15))))))))))
def f10_leastToTurn_K46 (rec : HM → Nat → Int32 → Int32 → Int32 → Option (Int32 × HM)) (s23 : HM) (p0 : Nat) (p2 : Int32) (p3 : Int32) (x23_4 : Int32) (x23_5 : Int32) (k46_t0 : Int32) : Option ((Int32 × Int32 × HM) ⊕ (Int32 × HM)) := if x23_4 = ((Int8.ofInt (-4)).toInt32) then (f10_leastToTurn_K62 rec s23 p0 p2 p3 x23_4 x23_5 k46_t0) else (if x23_4 ≤ k46_t0 then (some (.inl (x23_4, x23_5 + Int32.ofInt 1, s23))) else (f10_leastToTurn_K62 rec s23 p0 p2 p3 x23_4 x23_5 k46_t0))
def f10_leastToTurn_L23 (rec : HM → Nat → Int32 → Int32 → Int32 → Option (Int32 × HM)) (p0 : Nat) (p2 : Int32) (p3 : Int32) (w : Int32 × Int32 × HM) : Option ((Int32 × Int32 × HM) ⊕ (Int32 × HM)) := match w with
  | (x23_4, x23_5, s23) => ocl s23 p0 2 (obd (f2_matches s23 p0) (fun v7 => if v7 ≤ x23_5 then (some (.inr (x23_4, s23))) else (if p3 = 0 then (f10_leastToTurn_K46 rec s23 p0 p2 p3 x23_4 x23_5 (Int32.ofInt 1)) else (ocl s23 p0 2 (obd (f2_costOfTurn s23 p0 x23_5) (fun v23 => f10_leastToTurn_K46 rec s23 p0 p2 p3 x23_4 x23_5 v23))))))
def f10_leastToTurn_B (rec : HM → Nat → Int32 → Int32 → Int32 → Option (Int32 × HM)) (s0 : HM) (p0 : Nat) (p1 : Int32) (p2 : Int32) (p3 : Int32) : Option (Int32 × HM) := ocl s0 p0 2 (obd (f2_isLawful s0 p0) (fun v2 => if v2 = 0 then (if 0 < p2 then (obd (iter (f10_leastToTurn_L23 rec p0 p2 p3) FU ((Int8.ofInt (-4)).toInt32, p1, s0)) (fun o5 => match o5 with | (e23_4, t23) => some (e23_4, t23))) else (some ((Int8.ofInt (-4)).toInt32, s0))) else (some (Int32.ofInt 0, s0))))
def f10_leastToTurn : Nat → HM → Nat → Int32 → Int32 → Int32 → Option (Int32 × HM)
  | 0 => fun _ _ _ _ _ => none
  | fu + 1 => f10_leastToTurn_B (f10_leastToTurn fu)
set_option maxRecDepth 100000 in
set_option maxHeartbeats 4000000 in
theorem c10_leastToTurn_B (l : Launch) (κ : KP) (A : Nat → Prop) (rec : HM → Nat → Int32 → Int32 → Int32 → Option (Int32 × HM)) (d : Nat) (hd : 5 ≤ d) (hrec : ∀ (l : Launch) (s0 : HM) (p0 : Nat) (p1 : Int32) (p2 : Int32) (p3 : Int32) (res : Int32 × HM), rec s0 p0 p1 p2 p3 = some res → Met l yX10_leastToTurn (Cond.code yX10_leastToTurn cX10_leastToTurn 8 (some .int) :: WT) (rmL d 0 0) (PP κ A [.ref p0, .int p1, .int p2, .int p3] (HS κ A s0)) (QQ (some (.int res.1)) (HS κ A res.2) A) 0 0 A) (s0 : HM) (p0 : Nat) (p1 : Int32) (p2 : Int32) (p3 : Int32) {res : Int32 × HM} (hF : f10_leastToTurn_B rec s0 p0 p1 p2 p3 = some res) : Met l yX10_leastToTurn (Cond.code yX10_leastToTurn cX10_leastToTurn 8 (some .int) :: WT) (rmL (d + 1) 0 0) (PP κ A [.ref p0, .int p1, .int p2, .int p3] (HS κ A s0)) (QQ (some (.int res.1)) (HS κ A res.2) A) 0 0 A := by
  refine met_of (own := RX10) (by decide) rfl (Nat.le_of_ble_eq_true rfl) ?_
  intro Γ E hQ hL hR hA hent hini
  have hAA : ∀ q, A q → jA Γ q := fun q h => by rw [hA]; exact h
  have hroom : ∀ (e mL : Nat) {mc ms : Nat}, e < d + 1 → mL ≤ 21 → (rmL e mc ms).frames + 1 ≤ (jR Γ).frames ∧ 8 + (mL + 11) + (rmL e mc ms).locals ≤ (jR Γ).locals := fun e mL mc ms h1 h2 => by rw [hR]; exact rmL_le h1 h2
  show J Γ 8 (HS κ A s0) 0 0 0 [(0, .ref p0), (1, .int p1), (2, .int p2), (3, .int p3)] []
  unfold f10_leastToTurn_B at hF
  refine j_blk (pc' := 1) (lv' := [(0, .ref p0), (1, .int p1), (2, .int p2), (3, .int p3)]) (st' := [.ref p0]) E b_c10_leastToTurn_0_1 rfl ?_
  replace hF := ocl_at hF
  obtain ⟨hc, hF⟩ := hF
  replace hF := obd_at hF
  obtain ⟨v2, he1, hF⟩ := hF
  refine j_callv [] [] E w_RX10_133 (hroom 4 1 (by omega) (by decide)) hAA (c2_isLawful _ κ A _ _  he1) (fun _ h => h) (fun _ _ _ h _ _ => h) (fun _ h => j_recv E h hc rfl) rfl rfl (Nat.le_of_ble_eq_true rfl) d_c10_leastToTurn_1 ⟨Nat.zero_le _, Nat.zero_le _⟩ ?_
  refine j_if_eq (tgt := 9) E d_c10_leastToTurn_4 (by decide) (fun h3 => ?_) (fun h3 => ?_)
  · replace hF := g_t hF h3
    refine j_blk (pc' := 14) (lv' := [(4, .int ((Int8.ofInt (-4)).toInt32)), (0, .ref p0), (1, .int p1), (2, .int p2), (3, .int p3)]) (st' := [.int p2]) E b_c10_leastToTurn_9_3 rfl ?_
    refine j_if_gt (tgt := 20) E d_c10_leastToTurn_14 (by decide) (fun h4 => ?_) (fun h4 => ?_)
    · replace hF := g_t hF h4
      refine j_blk (pc' := 23) (lv' := [(5, .int p1), (4, .int ((Int8.ofInt (-4)).toInt32)), (0, .ref p0), (1, .int p1), (2, .int p2), (3, .int p3)]) (st' := []) E b_c10_leastToTurn_20_2 rfl ?_
      refine j_lv [2, 4, 5, 1, 0] rfl ?_
      replace hF := obd_at hF
      obtain ⟨o5, ho5, hF⟩ := hF
      have lpo5 : ∀ (fu : Nat) (w : Int32 × Int32 × HM) (o : Int32 × HM), iter (f10_leastToTurn_L23 rec p0 p2 p3) fu w = some o → (fun (o : Int32 × HM) => J Γ 8 (HS κ A o.2) 0 0 125 [(4, .int o.1)] []) o → (fun (w : Int32 × Int32 × HM) => J Γ 8 (HS κ A w.2.2) 0 0 23 [(0, .ref p0), (2, .int p2), (3, .int p3), (4, .int w.1), (5, .int w.2.1)] []) w := by
        refine j_iter (P := fun (w : Int32 × Int32 × HM) => J Γ 8 (HS κ A w.2.2) 0 0 23 [(0, .ref p0), (2, .int p2), (3, .int p3), (4, .int w.1), (5, .int w.2.1)] []) (G := fun (o : Int32 × HM) => J Γ 8 (HS κ A o.2) 0 0 125 [(4, .int o.1)] []) ?_
        rintro ⟨x23_4, x23_5, s23⟩ q hF hI hO
        show J Γ 8 (HS κ A s23) 0 0 23 [(0, .ref p0), (2, .int p2), (3, .int p3), (4, .int x23_4), (5, .int x23_5)] []
        unfold f10_leastToTurn_L23 at hF
        refine j_blk (pc' := 26) (lv' := [(0, .ref p0), (2, .int p2), (3, .int p3), (4, .int x23_4), (5, .int x23_5)]) (st' := [.ref p0, .int x23_5]) E b_c10_leastToTurn_23_2 rfl ?_
        replace hF := ocl_at hF
        obtain ⟨hc, hF⟩ := hF
        replace hF := obd_at hF
        obtain ⟨v7, he6, hF⟩ := hF
        refine j_callv [] [.int x23_5] E w_RX10_147 (hroom 0 1 (by omega) (by decide)) hAA (c2_matches _ κ A _ _  he6) (fun _ h => h) (fun _ _ _ h _ _ => h) (fun _ h => j_recv E h hc rfl) rfl rfl (Nat.le_of_ble_eq_true rfl) d_c10_leastToTurn_26 ⟨Nat.zero_le _, Nat.zero_le _⟩ ?_
        refine j_icmp_ge (tgt := 125) E d_c10_leastToTurn_29 (by decide) (fun h8 => ?_) (fun h8 => ?_)
        · replace hF := g_t hF h8
          refine j_lv [3] rfl ?_
          exact hO _ (g_inj hF)
        · replace hF := g_f hF h8
          refine j_blk (pc' := 33) (lv' := [(0, .ref p0), (2, .int p2), (3, .int p3), (4, .int x23_4), (5, .int x23_5)]) (st' := [.int p3]) E b_c10_leastToTurn_32_1 rfl ?_
          have kp46 : ∀ (k46_t0 : Int32), f10_leastToTurn_K46 rec s23 p0 p2 p3 x23_4 x23_5 k46_t0 = some q → J Γ 8 (HS κ A s23) 0 0 46 [(0, .ref p0), (2, .int p2), (3, .int p3), (4, .int x23_4), (5, .int x23_5)] [.int k46_t0] := by
            intro k46_t0 hF
            unfold f10_leastToTurn_K46 at hF
            refine j_blk (pc' := 52) (lv' := [(6, .int k46_t0), (0, .ref p0), (2, .int p2), (3, .int p3), (4, .int x23_4), (5, .int x23_5)]) (st' := [.int ((Int8.ofInt (-4)).toInt32), .int x23_4]) E b_c10_leastToTurn_46_3 rfl ?_
            have kp62 : ∀ (k62_5 : Int32), f10_leastToTurn_K62 rec s23 p0 p2 p3 x23_4 k62_5 k46_t0 = some q → J Γ 8 (HS κ A s23) 0 0 62 [(0, .ref p0), (2, .int p2), (3, .int p3), (4, .int x23_4), (5, .int k62_5), (6, .int k46_t0)] [] := by
              intro k62_5 hF
              unfold f10_leastToTurn_K62 at hF
              refine j_blk (pc' := 65) (lv' := [(0, .ref p0), (2, .int p2), (3, .int p3), (4, .int x23_4), (5, .int k62_5), (6, .int k46_t0)]) (st' := [.int k62_5, .ref p0]) E b_c10_leastToTurn_62_2 rfl ?_
              replace hF := ocl_at hF
              obtain ⟨hc, hF⟩ := hF
              replace hF := obd_at hF
              obtain ⟨s10, he9, hF⟩ := hF
              refine j_callv [.int k62_5] [] E w_RX10_288 (hroom 0 2 (by omega) (by decide)) hAA (c2_turn _ κ A _ _ _  he9) (fun _ h => h) (fun _ _ _ h _ _ => h) (fun _ h => j_recv E h hc rfl) rfl rfl (Nat.le_of_ble_eq_true rfl) d_c10_leastToTurn_65 ⟨Nat.zero_le _, Nat.zero_le _⟩ ?_
              refine j_blk (pc' := 77) (lv' := [(0, .ref p0), (2, .int p2), (3, .int p3), (4, .int x23_4), (5, .int k62_5), (6, .int k46_t0)]) (st' := [.int p3, .int (p2 - (Int32.ofInt 1)), .int (k62_5 + (Int32.ofInt 1)), .ref p0]) E b_c10_leastToTurn_68_8 rfl ?_
              replace hF := obd_at hF
              obtain ⟨⟨v13, s12⟩, he11, hF⟩ := hF
              refine j_calls [.ref p0, .int (k62_5 + (Int32.ofInt 1)), .int (p2 - (Int32.ofInt 1)), .int p3] [] E w_RX10_161 (hroom d 8 (by omega) (by decide)) hAA (hrec _ _ _ _ _ _ _ he11) (fun _ h => h) (fun _ _ _ h _ _ => h) rfl rfl (Nat.le_of_ble_eq_true rfl) d_c10_leastToTurn_77 ⟨Nat.zero_le _, Nat.zero_le _⟩ ?_
              refine j_blk (pc' := 85) (lv' := [(7, .int v13), (0, .ref p0), (2, .int p2), (3, .int p3), (4, .int x23_4), (5, .int k62_5), (6, .int k46_t0)]) (st' := [.int k62_5, .ref p0]) E b_c10_leastToTurn_80_3 rfl ?_
              replace hF := ocl_at hF
              obtain ⟨hc, hF⟩ := hF
              replace hF := obd_at hF
              obtain ⟨s15, he14, hF⟩ := hF
              refine j_callv [.int k62_5] [] E w_RX10_288 (hroom 0 2 (by omega) (by decide)) hAA (c2_turn _ κ A _ _ _  he14) (fun _ h => h) (fun _ _ _ h _ _ => h) (fun _ h => j_recv E h hc rfl) rfl rfl (Nat.le_of_ble_eq_true rfl) d_c10_leastToTurn_85 ⟨Nat.zero_le _, Nat.zero_le _⟩ ?_
              refine j_blk (pc' := 92) (lv' := [(7, .int v13), (0, .ref p0), (2, .int p2), (3, .int p3), (4, .int x23_4), (5, .int k62_5), (6, .int k46_t0)]) (st' := [.int ((Int8.ofInt (-4)).toInt32), .int v13]) E b_c10_leastToTurn_88_2 rfl ?_
              refine j_icmp_eq (tgt := 119) E d_c10_leastToTurn_92 (by decide) (fun h16 => ?_) (fun h16 => ?_)
              · replace hF := g_t hF h16
                refine j_blk (pc' := 122) (lv' := [(5, .int (k62_5 + Int32.ofInt 1)), (7, .int v13), (0, .ref p0), (2, .int p2), (3, .int p3), (4, .int x23_4), (6, .int k46_t0)]) (st' := []) E b_c10_leastToTurn_119_1 rfl ?_
                refine j_goto (tgt := 23) E d_c10_leastToTurn_122 (by decide) ?_
                refine j_lv [2, 3, 4, 5, 0] rfl ?_
                exact hI _ (g_inj hF)
              · replace hF := g_f hF h16
                refine j_blk (pc' := 99) (lv' := [(7, .int v13), (0, .ref p0), (2, .int p2), (3, .int p3), (4, .int x23_4), (5, .int k62_5), (6, .int k46_t0)]) (st' := [.int ((Int8.ofInt (-4)).toInt32), .int x23_4]) E b_c10_leastToTurn_95_2 rfl ?_
                refine j_icmp_eq (tgt := 112) E d_c10_leastToTurn_99 (by decide) (fun h17 => ?_) (fun h17 => ?_)
                · replace hF := g_t hF h17
                  refine j_blk (pc' := 122) (lv' := [(5, .int (k62_5 + Int32.ofInt 1)), (4, .int (k46_t0 + v13)), (7, .int v13), (0, .ref p0), (2, .int p2), (3, .int p3), (6, .int k46_t0)]) (st' := []) E b_c10_leastToTurn_112_5 rfl ?_
                  refine j_goto (tgt := 23) E d_c10_leastToTurn_122 (by decide) ?_
                  refine j_lv [3, 4, 5, 1, 0] rfl ?_
                  exact hI _ (g_inj hF)
                · replace hF := g_f hF h17
                  refine j_blk (pc' := 109) (lv' := [(7, .int v13), (0, .ref p0), (2, .int p2), (3, .int p3), (4, .int x23_4), (5, .int k62_5), (6, .int k46_t0)]) (st' := [.int x23_4, .int (k46_t0 + v13)]) E b_c10_leastToTurn_102_4 rfl ?_
                  refine j_icmp_ge (tgt := 119) E d_c10_leastToTurn_109 (by decide) (fun h18 => ?_) (fun h18 => ?_)
                  · replace hF := g_t hF h18
                    refine j_blk (pc' := 122) (lv' := [(5, .int (k62_5 + Int32.ofInt 1)), (7, .int v13), (0, .ref p0), (2, .int p2), (3, .int p3), (4, .int x23_4), (6, .int k46_t0)]) (st' := []) E b_c10_leastToTurn_119_1 rfl ?_
                    refine j_goto (tgt := 23) E d_c10_leastToTurn_122 (by decide) ?_
                    refine j_lv [2, 3, 4, 5, 0] rfl ?_
                    exact hI _ (g_inj hF)
                  · replace hF := g_f hF h18
                    refine j_blk (pc' := 122) (lv' := [(5, .int (k62_5 + Int32.ofInt 1)), (4, .int (k46_t0 + v13)), (7, .int v13), (0, .ref p0), (2, .int p2), (3, .int p3), (6, .int k46_t0)]) (st' := []) E b_c10_leastToTurn_112_5 rfl ?_
                    refine j_goto (tgt := 23) E d_c10_leastToTurn_122 (by decide) ?_
                    refine j_lv [3, 4, 5, 1, 0] rfl ?_
                    exact hI _ (g_inj hF)
            refine j_icmp_eq (tgt := 62) E d_c10_leastToTurn_52 (by decide) (fun h19 => ?_) (fun h19 => ?_)
            · replace hF := g_t hF h19
              refine j_lv [1, 2, 3, 4, 5, 0] rfl ?_
              exact kp62 x23_5 hF
            · replace hF := g_f hF h19
              refine j_blk (pc' := 59) (lv' := [(6, .int k46_t0), (0, .ref p0), (2, .int p2), (3, .int p3), (4, .int x23_4), (5, .int x23_5)]) (st' := [.int x23_4, .int k46_t0]) E b_c10_leastToTurn_55_2 rfl ?_
              refine j_icmp_ge (tgt := 119) E d_c10_leastToTurn_59 (by decide) (fun h20 => ?_) (fun h20 => ?_)
              · replace hF := g_t hF h20
                refine j_blk (pc' := 122) (lv' := [(5, .int (x23_5 + Int32.ofInt 1)), (6, .int k46_t0), (0, .ref p0), (2, .int p2), (3, .int p3), (4, .int x23_4)]) (st' := []) E b_c10_leastToTurn_119_1 rfl ?_
                refine j_goto (tgt := 23) E d_c10_leastToTurn_122 (by decide) ?_
                refine j_lv [2, 3, 4, 5, 0] rfl ?_
                exact hI _ (g_inj hF)
              · replace hF := g_f hF h20
                refine j_lv [1, 2, 3, 4, 5, 0] rfl ?_
                exact kp62 x23_5 hF
          refine j_if_eq (tgt := 45) E d_c10_leastToTurn_33 (by decide) (fun h21 => ?_) (fun h21 => ?_)
          · replace hF := g_t hF h21
            refine j_blk (pc' := 46) (lv' := [(0, .ref p0), (2, .int p2), (3, .int p3), (4, .int x23_4), (5, .int x23_5)]) (st' := [.int (Int32.ofInt 1)]) E b_c10_leastToTurn_45_1 rfl ?_
            exact kp46 (Int32.ofInt 1) hF
          · replace hF := g_f hF h21
            refine j_blk (pc' := 39) (lv' := [(0, .ref p0), (2, .int p2), (3, .int p3), (4, .int x23_4), (5, .int x23_5)]) (st' := [.int x23_5, .ref p0]) E b_c10_leastToTurn_36_2 rfl ?_
            replace hF := ocl_at hF
            obtain ⟨hc, hF⟩ := hF
            replace hF := obd_at hF
            obtain ⟨v23, he22, hF⟩ := hF
            refine j_callv [.int x23_5] [] E w_RX10_291 (hroom 3 4 (by omega) (by decide)) hAA (c2_costOfTurn _ κ A _ _ _  he22) (fun _ h => h) (fun _ _ _ h _ _ => h) (fun _ h => j_recv E h hc rfl) rfl rfl (Nat.le_of_ble_eq_true rfl) d_c10_leastToTurn_39 ⟨Nat.zero_le _, Nat.zero_le _⟩ ?_
            refine j_goto (tgt := 46) E d_c10_leastToTurn_42 (by decide) ?_
            exact kp46 v23 hF
      refine lpo5 FU ((Int8.ofInt (-4)).toInt32, p1, s0) o5 ho5 ?_
      obtain ⟨e23_4, t23⟩ := o5
      show J Γ 8 (HS κ A t23) 0 0 125 [(4, .int e23_4)] []
      refine j_blk (pc' := 127) (lv' := [(4, .int e23_4)]) (st' := [.int e23_4]) E b_c10_leastToTurn_125_1 rfl ?_
      have e : res = (e23_4, t23) := g_inj hF
      subst e
      exact j_iret E hQ d_c10_leastToTurn_127 (fun _ h => h)
    · replace hF := g_f hF h4
      refine j_blk (pc' := 19) (lv' := [(4, .int ((Int8.ofInt (-4)).toInt32)), (0, .ref p0), (1, .int p1), (2, .int p2), (3, .int p3)]) (st' := [.int ((Int8.ofInt (-4)).toInt32)]) E b_c10_leastToTurn_17_1 rfl ?_
      have e : res = ((Int8.ofInt (-4)).toInt32, s0) := g_inj hF
      subst e
      exact j_iret E hQ d_c10_leastToTurn_19 (fun _ h => h)
  · replace hF := g_f hF h3
    refine j_blk (pc' := 8) (lv' := [(0, .ref p0), (1, .int p1), (2, .int p2), (3, .int p3)]) (st' := [.int (Int32.ofInt 0)]) E b_c10_leastToTurn_7_1 rfl ?_
    have e : res = (Int32.ofInt 0, s0) := g_inj hF
    subst e
    exact j_iret E hQ d_c10_leastToTurn_8 (fun _ h => h)
theorem c10_leastToTurn (l : Launch) (κ : KP) (A : Nat → Prop) (fu : Nat) : ∀ (s0 : HM) (p0 : Nat) (p1 : Int32) (p2 : Int32) (p3 : Int32) {res : Int32 × HM} (hF : f10_leastToTurn fu s0 p0 p1 p2 p3 = some res), Met l yX10_leastToTurn (Cond.code yX10_leastToTurn cX10_leastToTurn 8 (some .int) :: WT) (rmL (5 + fu) 0 0) (PP κ A [.ref p0, .int p1, .int p2, .int p3] (HS κ A s0)) (QQ (some (.int res.1)) (HS κ A res.2) A) 0 0 A := by
  induction fu generalizing l with
  | zero => intro s0 p0 p1 p2 p3 res hF; cases hF
  | succ fu ih => exact fun s0 p0 p1 p2 p3 res hF => c10_leastToTurn_B l κ A (f10_leastToTurn fu) (5 + fu) (by omega) (fun l s0 p0 p1 p2 p3 res h => ih l s0 p0 p1 p2 p3 h)  s0 p0 p1 p2 p3 hF
theorem b_c11_putsRight_0_2 : bdec cX11_putsRight 0 [.aload_n 0, .bipush (-4)] = true := by decide +kernel
theorem d_c11_putsRight_3 : decode cX11_putsRight 3 = .ok (.putfield 163, 3) := by decide +kernel
theorem b_c11_putsRight_6_2 : bdec cX11_putsRight 6 [.aload_n 0, .bipush (-4)] = true := by decide +kernel
theorem d_c11_putsRight_9 : decode cX11_putsRight 9 = .ok (.putfield 166, 3) := by decide +kernel
theorem b_c11_putsRight_12_4 : bdec cX11_putsRight 12 [.aload_n 0, .iconst 0, .iconst 0, .iconst 0] = true := by decide +kernel
theorem d_c11_putsRight_16 : decode cX11_putsRight 16 = .ok (.invokevirtual 169, 3) := by decide +kernel
theorem d_c11_putsRight_19 : decode cX11_putsRight 19 = .ok (.return_, 1) := by decide +kernel
def f11_putsRight (s0 : HM) (a0 : Nat) : Option (HM) := obd (hput s0 [11] 16 a0 (.int ((Int8.ofInt (-4)).toInt32))) (fun s1 => obd (hput s1 [11] 17 a0 (.int ((Int8.ofInt (-4)).toInt32))) (fun s2 => ocl s2 a0 11 (obd (f11_tries 5 s2 a0 (Int32.ofInt 0) (Int32.ofInt 0) (Int32.ofInt 0)) (fun s4 => some s4))))
set_option maxRecDepth 100000 in
set_option maxHeartbeats 4000000 in
theorem c11_putsRight (l : Launch) (κ : KP) (A : Nat → Prop) (s0 : HM) (a0 : Nat) {res : HM} (hF : f11_putsRight s0 a0 = some res) : Met l yX11_putsRight (Cond.code yX11_putsRight cX11_putsRight 1 none :: WT) (rmL 10 0 0) (PP κ A [.ref a0] (HS κ A s0)) (QQ none (HS κ A res) A) 0 0 A := by
  refine met_of (own := RX11) (by decide) rfl (Nat.le_of_ble_eq_true rfl) ?_
  intro Γ E hQ hL hR hA hent hini
  have hAA : ∀ q, A q → jA Γ q := fun q h => by rw [hA]; exact h
  have hroom : ∀ (d mL : Nat) {mc ms : Nat}, d < 10 → mL ≤ 21 → (rmL d mc ms).frames + 1 ≤ (jR Γ).frames ∧ 8 + (mL + 11) + (rmL d mc ms).locals ≤ (jR Γ).locals := fun d mL mc ms h1 h2 => by rw [hR]; exact rmL_le h1 h2
  show J Γ 1 (HS κ A s0) 0 0 0 [(0, .ref a0)] []
  unfold f11_putsRight at hF
  refine j_blk (pc' := 3) (lv' := [(0, .ref a0)]) (st' := [.int ((Int8.ofInt (-4)).toInt32), .ref a0]) E b_c11_putsRight_0_2 rfl ?_
  replace hF := obd_at hF
  obtain ⟨s1, es1, hF⟩ := hF
  refine j_put E fp_RX11_163 d_c11_putsRight_3 rfl rfl es1 hAA ?_
  refine j_blk (pc' := 9) (lv' := [(0, .ref a0)]) (st' := [.int ((Int8.ofInt (-4)).toInt32), .ref a0]) E b_c11_putsRight_6_2 rfl ?_
  replace hF := obd_at hF
  obtain ⟨s2, es2, hF⟩ := hF
  refine j_put E fp_RX11_166 d_c11_putsRight_9 rfl rfl es2 hAA ?_
  refine j_blk (pc' := 16) (lv' := [(0, .ref a0)]) (st' := [.int (Int32.ofInt 0), .int (Int32.ofInt 0), .int (Int32.ofInt 0), .ref a0]) E b_c11_putsRight_12_4 rfl ?_
  replace hF := ocl_at hF
  obtain ⟨hc, hF⟩ := hF
  replace hF := obd_at hF
  obtain ⟨s4, he3, hF⟩ := hF
  refine j_callv [.int (Int32.ofInt 0), .int (Int32.ofInt 0), .int (Int32.ofInt 0)] [] E w_RX11_169 (hroom 9 9 (by decide) (by decide)) hAA (c11_tries _ κ A 5 _ _ _ _ _  he3) (fun _ h => h) (fun _ _ _ h _ _ => h) (fun _ h => j_recv E h hc rfl) rfl rfl (Nat.le_of_ble_eq_true rfl) d_c11_putsRight_16 ⟨Nat.zero_le _, Nat.zero_le _⟩ ?_
  have e : res = s4 := g_inj hF
  subst e
  exact j_vret E hQ d_c11_putsRight_19 (fun _ h => h)
theorem b_c10_right_0_1 : bdec cX10_right 0 [.aload_n 0] = true := by decide +kernel
theorem d_c10_right_1 : decode cX10_right 1 = .ok (.getfield 27, 3) := by decide +kernel
theorem b_c10_right_4_1 : bdec cX10_right 4 [.aload_n 0] = true := by decide +kernel
theorem d_c10_right_5 : decode cX10_right 5 = .ok (.getfield 23, 3) := by decide +kernel
theorem d_c10_right_8 : decode cX10_right 8 = .ok (.invokevirtual 63, 3) := by decide +kernel
theorem b_c10_right_11_1 : bdec cX10_right 11 [.aload_n 0] = true := by decide +kernel
theorem d_c10_right_12 : decode cX10_right 12 = .ok (.getfield 27, 3) := by decide +kernel
theorem b_c10_right_15_3 : bdec cX10_right 15 [.iconst 0, .iconst 3, .iconst 0] = true := by decide +kernel
theorem d_c10_right_18 : decode cX10_right 18 = .ok (.invokestatic 161, 3) := by decide +kernel
theorem d_c10_right_21 : decode cX10_right 21 = .ok (.ireturn, 1) := by decide +kernel
def f10_right (s0 : HM) (a0 : Nat) : Option (Int32 × HM) := obd (hfld s0 [10] 2 a0) (fun v1 => obd (hfld s0 [10] 1 a0) (fun v2 => orf v2 (fun b3 => orf v1 (fun b4 => ocl s0 b4 2 (obd (f2_become s0 b4 b3) (fun s6 => obd (hfld s6 [10] 2 a0) (fun v7 => orf v7 (fun b8 => obd (f10_leastToTurn 5 s6 b8 (Int32.ofInt 0) (Int32.ofInt 3) (Int32.ofInt 0)) (fun e9 => match e9 with | (v11, s10) => some (v11, s10))))))))))
set_option maxRecDepth 100000 in
set_option maxHeartbeats 4000000 in
theorem c10_right (l : Launch) (κ : KP) (A : Nat → Prop) (s0 : HM) (a0 : Nat) {res : Int32 × HM} (hF : f10_right s0 a0 = some res) : Met l yX10_right (Cond.code yX10_right cX10_right 1 (some .int) :: WT) (rmL 11 0 0) (PP κ A [.ref a0] (HS κ A s0)) (QQ (some (.int res.1)) (HS κ A res.2) A) 0 0 A := by
  refine met_of (own := RX10) (by decide) rfl (Nat.le_of_ble_eq_true rfl) ?_
  intro Γ E hQ hL hR hA hent hini
  have hAA : ∀ q, A q → jA Γ q := fun q h => by rw [hA]; exact h
  have hroom : ∀ (d mL : Nat) {mc ms : Nat}, d < 11 → mL ≤ 21 → (rmL d mc ms).frames + 1 ≤ (jR Γ).frames ∧ 8 + (mL + 11) + (rmL d mc ms).locals ≤ (jR Γ).locals := fun d mL mc ms h1 h2 => by rw [hR]; exact rmL_le h1 h2
  show J Γ 1 (HS κ A s0) 0 0 0 [(0, .ref a0)] []
  unfold f10_right at hF
  refine j_blk (pc' := 1) (lv' := [(0, .ref a0)]) (st' := [.ref a0]) E b_c10_right_0_1 rfl ?_
  replace hF := obd_at hF
  obtain ⟨v1, ev1, hF⟩ := hF
  refine j_getf E fg_RX10_27 d_c10_right_1 ev1 ?_
  refine j_blk (pc' := 5) (lv' := [(0, .ref a0)]) (st' := [.ref a0, v1]) E b_c10_right_4_1 rfl ?_
  replace hF := obd_at hF
  obtain ⟨v2, ev2, hF⟩ := hF
  refine j_getf E fg_RX10_23 d_c10_right_5 ev2 ?_
  replace hF := orf_at hF
  obtain ⟨b3, rfl, hF⟩ := hF
  replace hF := orf_at hF
  obtain ⟨b4, rfl, hF⟩ := hF
  replace hF := ocl_at hF
  obtain ⟨hc, hF⟩ := hF
  replace hF := obd_at hF
  obtain ⟨s6, he5, hF⟩ := hF
  refine j_callv [.ref b3] [] E w_RX10_63 (hroom 0 3 (by decide) (by decide)) hAA (c2_become _ κ A _ _ _  he5) (fun _ h => h) (fun _ _ _ h _ _ => h) (fun _ h => j_recv E h hc rfl) rfl rfl (Nat.le_of_ble_eq_true rfl) d_c10_right_8 ⟨Nat.zero_le _, Nat.zero_le _⟩ ?_
  refine j_blk (pc' := 12) (lv' := [(0, .ref a0)]) (st' := [.ref a0]) E b_c10_right_11_1 rfl ?_
  replace hF := obd_at hF
  obtain ⟨v7, ev7, hF⟩ := hF
  refine j_getf E fg_RX10_27 d_c10_right_12 ev7 ?_
  refine j_blk (pc' := 18) (lv' := [(0, .ref a0)]) (st' := [.int (Int32.ofInt 0), .int (Int32.ofInt 3), .int (Int32.ofInt 0), v7]) E b_c10_right_15_3 rfl ?_
  replace hF := orf_at hF
  obtain ⟨b8, rfl, hF⟩ := hF
  replace hF := obd_at hF
  obtain ⟨⟨v11, s10⟩, he9, hF⟩ := hF
  refine j_calls [.ref b8, .int (Int32.ofInt 0), .int (Int32.ofInt 3), .int (Int32.ofInt 0)] [] E w_RX10_161 (hroom 10 8 (by decide) (by decide)) hAA (c10_leastToTurn _ κ A 5 _ _ _ _ _  he9) (fun _ h => h) (fun _ _ _ h _ _ => h) rfl rfl (Nat.le_of_ble_eq_true rfl) d_c10_right_18 ⟨Nat.zero_le _, Nat.zero_le _⟩ ?_
  have e : res = (v11, s10) := g_inj hF
  subst e
  exact j_iret E hQ d_c10_right_21 (fun _ h => h)
theorem b_c10_cheapest_0_1 : bdec cX10_cheapest 0 [.aload_n 0] = true := by decide +kernel
theorem d_c10_cheapest_1 : decode cX10_cheapest 1 = .ok (.getfield 27, 3) := by decide +kernel
theorem b_c10_cheapest_4_1 : bdec cX10_cheapest 4 [.aload_n 0] = true := by decide +kernel
theorem d_c10_cheapest_5 : decode cX10_cheapest 5 = .ok (.getfield 23, 3) := by decide +kernel
theorem d_c10_cheapest_8 : decode cX10_cheapest 8 = .ok (.invokevirtual 63, 3) := by decide +kernel
theorem b_c10_cheapest_11_1 : bdec cX10_cheapest 11 [.aload_n 0] = true := by decide +kernel
theorem d_c10_cheapest_12 : decode cX10_cheapest 12 = .ok (.getfield 27, 3) := by decide +kernel
theorem b_c10_cheapest_15_3 : bdec cX10_cheapest 15 [.iconst 0, .iconst 3, .iconst 1] = true := by decide +kernel
theorem d_c10_cheapest_18 : decode cX10_cheapest 18 = .ok (.invokestatic 161, 3) := by decide +kernel
theorem d_c10_cheapest_21 : decode cX10_cheapest 21 = .ok (.ireturn, 1) := by decide +kernel
def f10_cheapest (s0 : HM) (a0 : Nat) : Option (Int32 × HM) := obd (hfld s0 [10] 2 a0) (fun v1 => obd (hfld s0 [10] 1 a0) (fun v2 => orf v2 (fun b3 => orf v1 (fun b4 => ocl s0 b4 2 (obd (f2_become s0 b4 b3) (fun s6 => obd (hfld s6 [10] 2 a0) (fun v7 => orf v7 (fun b8 => obd (f10_leastToTurn 5 s6 b8 (Int32.ofInt 0) (Int32.ofInt 3) (Int32.ofInt 1)) (fun e9 => match e9 with | (v11, s10) => some (v11, s10))))))))))
set_option maxRecDepth 100000 in
set_option maxHeartbeats 4000000 in
theorem c10_cheapest (l : Launch) (κ : KP) (A : Nat → Prop) (s0 : HM) (a0 : Nat) {res : Int32 × HM} (hF : f10_cheapest s0 a0 = some res) : Met l yX10_cheapest (Cond.code yX10_cheapest cX10_cheapest 1 (some .int) :: WT) (rmL 11 0 0) (PP κ A [.ref a0] (HS κ A s0)) (QQ (some (.int res.1)) (HS κ A res.2) A) 0 0 A := by
  refine met_of (own := RX10) (by decide) rfl (Nat.le_of_ble_eq_true rfl) ?_
  intro Γ E hQ hL hR hA hent hini
  have hAA : ∀ q, A q → jA Γ q := fun q h => by rw [hA]; exact h
  have hroom : ∀ (d mL : Nat) {mc ms : Nat}, d < 11 → mL ≤ 21 → (rmL d mc ms).frames + 1 ≤ (jR Γ).frames ∧ 8 + (mL + 11) + (rmL d mc ms).locals ≤ (jR Γ).locals := fun d mL mc ms h1 h2 => by rw [hR]; exact rmL_le h1 h2
  show J Γ 1 (HS κ A s0) 0 0 0 [(0, .ref a0)] []
  unfold f10_cheapest at hF
  refine j_blk (pc' := 1) (lv' := [(0, .ref a0)]) (st' := [.ref a0]) E b_c10_cheapest_0_1 rfl ?_
  replace hF := obd_at hF
  obtain ⟨v1, ev1, hF⟩ := hF
  refine j_getf E fg_RX10_27 d_c10_cheapest_1 ev1 ?_
  refine j_blk (pc' := 5) (lv' := [(0, .ref a0)]) (st' := [.ref a0, v1]) E b_c10_cheapest_4_1 rfl ?_
  replace hF := obd_at hF
  obtain ⟨v2, ev2, hF⟩ := hF
  refine j_getf E fg_RX10_23 d_c10_cheapest_5 ev2 ?_
  replace hF := orf_at hF
  obtain ⟨b3, rfl, hF⟩ := hF
  replace hF := orf_at hF
  obtain ⟨b4, rfl, hF⟩ := hF
  replace hF := ocl_at hF
  obtain ⟨hc, hF⟩ := hF
  replace hF := obd_at hF
  obtain ⟨s6, he5, hF⟩ := hF
  refine j_callv [.ref b3] [] E w_RX10_63 (hroom 0 3 (by decide) (by decide)) hAA (c2_become _ κ A _ _ _  he5) (fun _ h => h) (fun _ _ _ h _ _ => h) (fun _ h => j_recv E h hc rfl) rfl rfl (Nat.le_of_ble_eq_true rfl) d_c10_cheapest_8 ⟨Nat.zero_le _, Nat.zero_le _⟩ ?_
  refine j_blk (pc' := 12) (lv' := [(0, .ref a0)]) (st' := [.ref a0]) E b_c10_cheapest_11_1 rfl ?_
  replace hF := obd_at hF
  obtain ⟨v7, ev7, hF⟩ := hF
  refine j_getf E fg_RX10_27 d_c10_cheapest_12 ev7 ?_
  refine j_blk (pc' := 18) (lv' := [(0, .ref a0)]) (st' := [.int (Int32.ofInt 1), .int (Int32.ofInt 3), .int (Int32.ofInt 0), v7]) E b_c10_cheapest_15_3 rfl ?_
  replace hF := orf_at hF
  obtain ⟨b8, rfl, hF⟩ := hF
  replace hF := obd_at hF
  obtain ⟨⟨v11, s10⟩, he9, hF⟩ := hF
  refine j_calls [.ref b8, .int (Int32.ofInt 0), .int (Int32.ofInt 3), .int (Int32.ofInt 1)] [] E w_RX10_161 (hroom 10 8 (by decide) (by decide)) hAA (c10_leastToTurn _ κ A 5 _ _ _ _ _  he9) (fun _ h => h) (fun _ _ _ h _ _ => h) rfl rfl (Nat.le_of_ble_eq_true rfl) d_c10_cheapest_18 ⟨Nat.zero_le _, Nat.zero_le _⟩ ?_
  have e : res = (v11, s10) := g_inj hF
  subst e
  exact j_iret E hQ d_c10_cheapest_21 (fun _ h => h)
theorem b_c11_right_0_1 : bdec cX11_right 0 [.aload_n 0] = true := by decide +kernel
theorem d_c11_right_1 : decode cX11_right 1 = .ok (.invokevirtual 172, 3) := by decide +kernel
theorem b_c11_right_4_1 : bdec cX11_right 4 [.aload_n 0] = true := by decide +kernel
theorem d_c11_right_5 : decode cX11_right 5 = .ok (.getfield 163, 3) := by decide +kernel
theorem d_c11_right_8 : decode cX11_right 8 = .ok (.ireturn, 1) := by decide +kernel
def f11_right (s0 : HM) (a0 : Nat) : Option (Int32 × HM) := ocl s0 a0 11 (obd (f11_putsRight s0 a0) (fun s2 => obd (hfi s2 [11] 16 a0) (fun v3 => some (v3, s2))))
set_option maxRecDepth 100000 in
set_option maxHeartbeats 4000000 in
theorem c11_right (l : Launch) (κ : KP) (A : Nat → Prop) (s0 : HM) (a0 : Nat) {res : Int32 × HM} (hF : f11_right s0 a0 = some res) : Met l yX11_right (Cond.code yX11_right cX11_right 1 (some .int) :: WT) (rmL 11 0 0) (PP κ A [.ref a0] (HS κ A s0)) (QQ (some (.int res.1)) (HS κ A res.2) A) 0 0 A := by
  refine met_of (own := RX11) (by decide) rfl (Nat.le_of_ble_eq_true rfl) ?_
  intro Γ E hQ hL hR hA hent hini
  have hAA : ∀ q, A q → jA Γ q := fun q h => by rw [hA]; exact h
  have hroom : ∀ (d mL : Nat) {mc ms : Nat}, d < 11 → mL ≤ 21 → (rmL d mc ms).frames + 1 ≤ (jR Γ).frames ∧ 8 + (mL + 11) + (rmL d mc ms).locals ≤ (jR Γ).locals := fun d mL mc ms h1 h2 => by rw [hR]; exact rmL_le h1 h2
  show J Γ 1 (HS κ A s0) 0 0 0 [(0, .ref a0)] []
  unfold f11_right at hF
  refine j_blk (pc' := 1) (lv' := [(0, .ref a0)]) (st' := [.ref a0]) E b_c11_right_0_1 rfl ?_
  replace hF := ocl_at hF
  obtain ⟨hc, hF⟩ := hF
  replace hF := obd_at hF
  obtain ⟨s2, he1, hF⟩ := hF
  refine j_callv [] [] E w_RX11_172 (hroom 10 1 (by decide) (by decide)) hAA (c11_putsRight _ κ A _ _  he1) (fun _ h => h) (fun _ _ _ h _ _ => h) (fun _ h => j_recv E h hc rfl) rfl rfl (Nat.le_of_ble_eq_true rfl) d_c11_right_1 ⟨Nat.zero_le _, Nat.zero_le _⟩ ?_
  refine j_blk (pc' := 5) (lv' := [(0, .ref a0)]) (st' := [.ref a0]) E b_c11_right_4_1 rfl ?_
  replace hF := obd_at hF
  obtain ⟨v3, ev3, hF⟩ := hF
  refine j_getI E fg_RX11_163 d_c11_right_5 ev3 ?_
  have e : res = (v3, s2) := g_inj hF
  subst e
  exact j_iret E hQ d_c11_right_8 (fun _ h => h)
theorem b_c11_cheapest_0_1 : bdec cX11_cheapest 0 [.aload_n 0] = true := by decide +kernel
theorem d_c11_cheapest_1 : decode cX11_cheapest 1 = .ok (.invokevirtual 172, 3) := by decide +kernel
theorem b_c11_cheapest_4_1 : bdec cX11_cheapest 4 [.aload_n 0] = true := by decide +kernel
theorem d_c11_cheapest_5 : decode cX11_cheapest 5 = .ok (.getfield 166, 3) := by decide +kernel
theorem d_c11_cheapest_8 : decode cX11_cheapest 8 = .ok (.ireturn, 1) := by decide +kernel
def f11_cheapest (s0 : HM) (a0 : Nat) : Option (Int32 × HM) := ocl s0 a0 11 (obd (f11_putsRight s0 a0) (fun s2 => obd (hfi s2 [11] 17 a0) (fun v3 => some (v3, s2))))
set_option maxRecDepth 100000 in
set_option maxHeartbeats 4000000 in
theorem c11_cheapest (l : Launch) (κ : KP) (A : Nat → Prop) (s0 : HM) (a0 : Nat) {res : Int32 × HM} (hF : f11_cheapest s0 a0 = some res) : Met l yX11_cheapest (Cond.code yX11_cheapest cX11_cheapest 1 (some .int) :: WT) (rmL 11 0 0) (PP κ A [.ref a0] (HS κ A s0)) (QQ (some (.int res.1)) (HS κ A res.2) A) 0 0 A := by
  refine met_of (own := RX11) (by decide) rfl (Nat.le_of_ble_eq_true rfl) ?_
  intro Γ E hQ hL hR hA hent hini
  have hAA : ∀ q, A q → jA Γ q := fun q h => by rw [hA]; exact h
  have hroom : ∀ (d mL : Nat) {mc ms : Nat}, d < 11 → mL ≤ 21 → (rmL d mc ms).frames + 1 ≤ (jR Γ).frames ∧ 8 + (mL + 11) + (rmL d mc ms).locals ≤ (jR Γ).locals := fun d mL mc ms h1 h2 => by rw [hR]; exact rmL_le h1 h2
  show J Γ 1 (HS κ A s0) 0 0 0 [(0, .ref a0)] []
  unfold f11_cheapest at hF
  refine j_blk (pc' := 1) (lv' := [(0, .ref a0)]) (st' := [.ref a0]) E b_c11_cheapest_0_1 rfl ?_
  replace hF := ocl_at hF
  obtain ⟨hc, hF⟩ := hF
  replace hF := obd_at hF
  obtain ⟨s2, he1, hF⟩ := hF
  refine j_callv [] [] E w_RX11_172 (hroom 10 1 (by decide) (by decide)) hAA (c11_putsRight _ κ A _ _  he1) (fun _ h => h) (fun _ _ _ h _ _ => h) (fun _ h => j_recv E h hc rfl) rfl rfl (Nat.le_of_ble_eq_true rfl) d_c11_cheapest_1 ⟨Nat.zero_le _, Nat.zero_le _⟩ ?_
  refine j_blk (pc' := 5) (lv' := [(0, .ref a0)]) (st' := [.ref a0]) E b_c11_cheapest_4_1 rfl ?_
  replace hF := obd_at hF
  obtain ⟨v3, ev3, hF⟩ := hF
  refine j_getI E fg_RX11_166 d_c11_cheapest_5 ev3 ?_
  have e : res = (v3, s2) := g_inj hF
  subst e
  exact j_iret E hQ d_c11_cheapest_8 (fun _ h => h)
theorem b_c11_common_0_3 : bdec cX11_common 0 [.lload_n 2, .lconst 0, .lcmp] = true := by decide +kernel
theorem d_c11_common_3 : decode cX11_common 3 = .ok (.ifCond .ne 7, 3) := by decide +kernel
theorem b_c11_common_10_3 : bdec cX11_common 10 [.lload_n 2, .lload_n 0, .lload_n 2] = true := by decide +kernel
theorem d_c11_common_13 : decode cX11_common 13 = .ok (.lrem, 1) := by decide +kernel
theorem d_c11_common_14 : decode cX11_common 14 = .ok (.invokestatic 183, 3) := by decide +kernel
theorem d_c11_common_17 : decode cX11_common 17 = .ok (.lreturn, 1) := by decide +kernel
theorem b_c11_common_6_1 : bdec cX11_common 6 [.lload_n 0] = true := by decide +kernel
theorem d_c11_common_7 : decode cX11_common 7 = .ok (.goto 10, 3) := by decide +kernel
def f11_common_B (rec : Int64 → Int64 → Option (Int64)) (p0 : Int64) (p2 : Int64) : Option (Int64) := if (lg_cmp p2 (Int64.ofNat 0)) = 0 then (some p0) else (onzl p2 (obd (rec p2 (p0 - p0 / p2 * p2)) (fun v3 => some v3)))
def f11_common : Nat → Int64 → Int64 → Option (Int64)
  | 0 => fun _ _ => none
  | fu + 1 => f11_common_B (f11_common fu)
set_option maxRecDepth 100000 in
set_option maxHeartbeats 4000000 in
theorem c11_common_B (l : Launch) (κ : KP) (A : Nat → Prop) (rec : Int64 → Int64 → Option (Int64)) (d : Nat) (hd : 0 ≤ d) (hrec : ∀ (l : Launch) (HP : Heap → Prop) (p0 : Int64) (p2 : Int64) (res : Int64), rec p0 p2 = some res → Met l yX11_common (Cond.code yX11_common cX11_common 4 (some .long) :: WT) (rmL d 0 0) (PP κ A [.long p0, .long p2] HP) (QQ (some (.long res)) HP A) 0 0 A) (HP : Heap → Prop) (p0 : Int64) (p2 : Int64) {res : Int64} (hF : f11_common_B rec p0 p2 = some res) : Met l yX11_common (Cond.code yX11_common cX11_common 4 (some .long) :: WT) (rmL (d + 1) 0 0) (PP κ A [.long p0, .long p2] HP) (QQ (some (.long res)) HP A) 0 0 A := by
  refine met_of (own := RX11) (by decide) rfl (Nat.le_of_ble_eq_true rfl) ?_
  intro Γ E hQ hL hR hA hent hini
  have hAA : ∀ q, A q → jA Γ q := fun q h => by rw [hA]; exact h
  have hroom : ∀ (e mL : Nat) {mc ms : Nat}, e < d + 1 → mL ≤ 21 → (rmL e mc ms).frames + 1 ≤ (jR Γ).frames ∧ 8 + (mL + 11) + (rmL e mc ms).locals ≤ (jR Γ).locals := fun e mL mc ms h1 h2 => by rw [hR]; exact rmL_le h1 h2
  show J Γ 4 HP 0 0 0 [(0, .long p0), (2, .long p2)] []
  unfold f11_common_B at hF
  refine j_blk (pc' := 3) (lv' := [(0, .long p0), (2, .long p2)]) (st' := [.int (lg_cmp p2 (Int64.ofNat 0))]) E b_c11_common_0_3 rfl ?_
  refine j_if_ne (tgt := 10) E d_c11_common_3 (by decide) (fun h1 => ?_) (fun h1 => ?_)
  · replace hF := g_f hF h1
    refine j_blk (pc' := 13) (lv' := [(0, .long p0), (2, .long p2)]) (st' := [.long p2, .long p0, .long p2]) E b_c11_common_10_3 rfl ?_
    replace hF := onzl_at hF
    obtain ⟨h0, hF⟩ := hF
    refine j_lrem E d_c11_common_13 h0 ?_
    replace hF := obd_at hF
    obtain ⟨v3, he2, hF⟩ := hF
    refine j_calls [.long p2, .long (p0 - p0 / p2 * p2)] [] E w_RX11_183 (hroom d 4 (by omega) (by decide)) hAA (hrec _ HP _ _ _ he2) (fun _ h => h) (fun _ _ _ h _ _ => h) rfl rfl (Nat.le_of_ble_eq_true rfl) d_c11_common_14 ⟨Nat.zero_le _, Nat.zero_le _⟩ ?_
    have e : res = v3 := g_inj hF
    subst e
    exact j_lret E hQ d_c11_common_17 (fun _ h => h)
  · replace hF := g_t hF h1
    refine j_blk (pc' := 7) (lv' := [(0, .long p0), (2, .long p2)]) (st' := [.long p0]) E b_c11_common_6_1 rfl ?_
    refine j_goto (tgt := 17) E d_c11_common_7 (by decide) ?_
    have e : res = p0 := g_inj hF
    subst e
    exact j_lret E hQ d_c11_common_17 (fun _ h => h)
theorem c11_common (l : Launch) (κ : KP) (A : Nat → Prop) (fu : Nat) : ∀ (HP : Heap → Prop) (p0 : Int64) (p2 : Int64) {res : Int64} (hF : f11_common fu p0 p2 = some res), Met l yX11_common (Cond.code yX11_common cX11_common 4 (some .long) :: WT) (rmL (0 + fu) 0 0) (PP κ A [.long p0, .long p2] HP) (QQ (some (.long res)) HP A) 0 0 A := by
  induction fu generalizing l with
  | zero => intro HP p0 p2 res hF; cases hF
  | succ fu ih => exact fun HP p0 p2 res hF => c11_common_B l κ A (f11_common fu) (0 + fu) (by omega) (fun l HP p0 p2 res h => ih l HP p0 p2 h)  HP p0 p2 hF
theorem b_c11_odds_0_4 : bdec cX11_odds 0 [.iload_n 1, .i2l, .lconst 0, .lconst 1] = true := by decide +kernel
theorem d_c11_odds_4 : decode cX11_odds 4 = .ok (.invokestatic 49, 3) := by decide +kernel
theorem d_c11_odds_7 : decode cX11_odds 7 = .ok (.ifCond .ne 7, 3) := by decide +kernel
theorem b_c11_odds_14_1 : bdec cX11_odds 14 [.aload_n 0] = true := by decide +kernel
theorem d_c11_odds_15 : decode cX11_odds 15 = .ok (.getfield 9, 3) := by decide +kernel
theorem b_c11_odds_18_1 : bdec cX11_odds 18 [.iconst 0] = true := by decide +kernel
theorem d_c11_odds_19 : decode cX11_odds 19 = .ok (.iaload, 1) := by decide +kernel
theorem b_c11_odds_20_1 : bdec cX11_odds 20 [.iconst 4] = true := by decide +kernel
theorem d_c11_odds_21 : decode cX11_odds 21 = .ok (.if_icmp .le 7, 3) := by decide +kernel
theorem b_c11_odds_28_4 : bdec cX11_odds 28 [.lconst 1, .lstore_n 2, .iconst 0, .istore 4] = true := by decide +kernel
theorem b_c11_odds_33_2 : bdec cX11_odds 33 [.iload 4, .aload_n 0] = true := by decide +kernel
theorem d_c11_odds_36 : decode cX11_odds 36 = .ok (.getfield 9, 3) := by decide +kernel
theorem b_c11_odds_39_1 : bdec cX11_odds 39 [.iconst 0] = true := by decide +kernel
theorem d_c11_odds_40 : decode cX11_odds 40 = .ok (.iaload, 1) := by decide +kernel
theorem d_c11_odds_41 : decode cX11_odds 41 = .ok (.if_icmp .ge 49, 3) := by decide +kernel
theorem b_c11_odds_44_4 : bdec cX11_odds 44 [.iload 4, .iconst 1, .iadd, .istore 5] = true := by decide +kernel
theorem b_c11_odds_50_2 : bdec cX11_odds 50 [.iload 5, .aload_n 0] = true := by decide +kernel
theorem d_c11_odds_53 : decode cX11_odds 53 = .ok (.getfield 9, 3) := by decide +kernel
theorem b_c11_odds_56_1 : bdec cX11_odds 56 [.iconst 0] = true := by decide +kernel
theorem d_c11_odds_57 : decode cX11_odds 57 = .ok (.iaload, 1) := by decide +kernel
theorem d_c11_odds_58 : decode cX11_odds 58 = .ok (.if_icmp .ge 26, 3) := by decide +kernel
theorem b_c11_odds_61_3 : bdec cX11_odds 61 [.lload_n 2, .aload_n 0, .iload 4] = true := by decide +kernel
theorem d_c11_odds_65 : decode cX11_odds 65 = .ok (.invokevirtual 144, 3) := by decide +kernel
theorem b_c11_odds_68_2 : bdec cX11_odds 68 [.aload_n 0, .iload 5] = true := by decide +kernel
theorem d_c11_odds_71 : decode cX11_odds 71 = .ok (.invokevirtual 144, 3) := by decide +kernel
theorem b_c11_odds_74_5 : bdec cX11_odds 74 [.iadd, .i2l, .lmul, .lstore_n 2, .iinc 5 1] = true := by decide +kernel
theorem d_c11_odds_81 : decode cX11_odds 81 = .ok (.goto (-31), 3) := by decide +kernel
theorem b_c11_odds_84_1 : bdec cX11_odds 84 [.iinc 4 1] = true := by decide +kernel
theorem d_c11_odds_87 : decode cX11_odds 87 = .ok (.goto (-54), 3) := by decide +kernel
theorem b_c11_odds_90_3 : bdec cX11_odds 90 [.lconst 0, .lstore 4, .aload_n 0] = true := by decide +kernel
theorem d_c11_odds_94 : decode cX11_odds 94 = .ok (.invokevirtual 177, 3) := by decide +kernel
theorem b_c11_odds_97_2 : bdec cX11_odds 97 [.iconst 0, .istore 6] = true := by decide +kernel
theorem b_c11_odds_100_3 : bdec cX11_odds 100 [.iload 6, .iconst 1, .aload_n 0] = true := by decide +kernel
theorem d_c11_odds_104 : decode cX11_odds 104 = .ok (.invokevirtual 191, 3) := by decide +kernel
theorem b_c11_odds_107_1 : bdec cX11_odds 107 [.ishl] = true := by decide +kernel
theorem d_c11_odds_108 : decode cX11_odds 108 = .ok (.if_icmp .ge 35, 3) := by decide +kernel
theorem b_c11_odds_111_2 : bdec cX11_odds 111 [.aload_n 0, .iload 6] = true := by decide +kernel
theorem d_c11_odds_114 : decode cX11_odds 114 = .ok (.invokevirtual 194, 3) := by decide +kernel
theorem b_c11_odds_117_2 : bdec cX11_odds 117 [.lload 4, .aload_n 0] = true := by decide +kernel
theorem d_c11_odds_120 : decode cX11_odds 120 = .ok (.invokevirtual 153, 3) := by decide +kernel
theorem d_c11_odds_123 : decode cX11_odds 123 = .ok (.ifCond .eq 10, 3) := by decide +kernel
theorem b_c11_odds_133_4 : bdec cX11_odds 133 [.lconst 0, .ladd, .lstore 4, .iinc 6 1] = true := by decide +kernel
theorem d_c11_odds_140 : decode cX11_odds 140 = .ok (.goto (-40), 3) := by decide +kernel
theorem b_c11_odds_126_1 : bdec cX11_odds 126 [.aload_n 0] = true := by decide +kernel
theorem d_c11_odds_127 : decode cX11_odds 127 = .ok (.invokevirtual 197, 3) := by decide +kernel
theorem d_c11_odds_130 : decode cX11_odds 130 = .ok (.goto 4, 3) := by decide +kernel
theorem b_c11_odds_134_3 : bdec cX11_odds 134 [.ladd, .lstore 4, .iinc 6 1] = true := by decide +kernel
theorem b_c11_odds_143_1 : bdec cX11_odds 143 [.aload_n 0] = true := by decide +kernel
theorem d_c11_odds_144 : decode cX11_odds 144 = .ok (.invokevirtual 180, 3) := by decide +kernel
theorem b_c11_odds_147_2 : bdec cX11_odds 147 [.lload_n 2, .lload 4] = true := by decide +kernel
theorem d_c11_odds_150 : decode cX11_odds 150 = .ok (.invokestatic 183, 3) := by decide +kernel
theorem b_c11_odds_153_2 : bdec cX11_odds 153 [.lstore 6, .iload_n 1] = true := by decide +kernel
theorem d_c11_odds_156 : decode cX11_odds 156 = .ok (.ifCond .ne 11, 3) := by decide +kernel
theorem b_c11_odds_167_2 : bdec cX11_odds 167 [.lload_n 2, .lload 6] = true := by decide +kernel
theorem d_c11_odds_170 : decode cX11_odds 170 = .ok (.ldiv, 1) := by decide +kernel
theorem d_c11_odds_171 : decode cX11_odds 171 = .ok (.lreturn, 1) := by decide +kernel
theorem b_c11_odds_159_2 : bdec cX11_odds 159 [.lload 4, .lload 6] = true := by decide +kernel
theorem d_c11_odds_163 : decode cX11_odds 163 = .ok (.ldiv, 1) := by decide +kernel
theorem d_c11_odds_164 : decode cX11_odds 164 = .ok (.goto 7, 3) := by decide +kernel
theorem d_c11_odds_24 : decode cX11_odds 24 = .ok (.ldc2_w 189, 3) := by decide +kernel
theorem d_c11_odds_27 : decode cX11_odds 27 = .ok (.lreturn, 1) := by decide +kernel
theorem d_c11_odds_10 : decode cX11_odds 10 = .ok (.ldc2_w 187, 3) := by decide +kernel
theorem d_c11_odds_13 : decode cX11_odds 13 = .ok (.lreturn, 1) := by decide +kernel
def f11_odds_L50 (s0 : HM) (a0 : Nat) (p1 : Int32) (x33_4 : Int32) (w : Int64 × Int32) : Option ((Int64 × Int32) ⊕ (Int64)) := match w with
  | (x50_2, x50_5) => obd (hfld s0 [11] 0 a0) (fun v14 => orf v14 (fun b15 => obd (hald s0 b15 (Int32.ofInt 0)) (fun v16 => if v16 ≤ x50_5 then (some (.inr x50_2)) else (ocl s0 a0 11 (obd (f11_skill s0 a0 x33_4) (fun v19 => ocl s0 a0 11 (obd (f11_skill s0 a0 x50_5) (fun v21 => some (.inl (x50_2 * ((v19 + v21).toInt64), x50_5 + Int32.ofInt 1))))))))))
def f11_odds_L33 (s0 : HM) (a0 : Nat) (p1 : Int32) (w : Int64 × Int32) : Option ((Int64 × Int32) ⊕ (Int64)) := match w with
  | (x33_2, x33_4) => obd (hfld s0 [11] 0 a0) (fun v9 => orf v9 (fun b10 => obd (hald s0 b10 (Int32.ofInt 0)) (fun v11 => if v11 ≤ x33_4 then (some (.inr x33_2)) else (obd (iter (f11_odds_L50 s0 a0 p1 x33_4) FU (x33_2, x33_4 + (Int32.ofInt 1))) (fun o13 => match o13 with | e50_2 => some (.inl (e50_2, x33_4 + Int32.ofInt 1)))))))
def f11_odds_L100 (a0 : Nat) (p1 : Int32) (e33_2 : Int64) (w : Int64 × Int32 × HM) : Option ((Int64 × Int32 × HM) ⊕ (Int64 × HM)) := match w with
  | (x100_4, x100_6, s100) => ocl s100 a0 11 (obd (f11_matches s100 a0) (fun v26 => if ((Int32.ofInt 1) <<< (v26 &&& 31)) ≤ x100_6 then (some (.inr (x100_4, s100))) else (ocl s100 a0 11 (obd (f11_plays s100 a0 x100_6) (fun s29 => ocl s29 a0 11 (obd (f11_isLawful s29 a0) (fun v31 => if v31 = 0 then (some (.inl (x100_4 + (Int64.ofNat 0), x100_6 + Int32.ofInt 1, s29))) else (ocl s29 a0 11 (obd (f11_weightNow s29 a0) (fun v34 => some (.inl (x100_4 + v34, x100_6 + Int32.ofInt 1, s29))))))))))))
def f11_odds (s0 : HM) (a0 : Nat) (p1 : Int32) : Option (Int64 × HM) := obd (f11_isIn p1.toInt64 (Int64.ofNat 0) (Int64.ofNat 1)) (fun v2 => if v2 = 0 then (some ((-1000000001), s0)) else (obd (hfld s0 [11] 0 a0) (fun v4 => orf v4 (fun b5 => obd (hald s0 b5 (Int32.ofInt 0)) (fun v6 => if v6 ≤ (Int32.ofInt 4) then (obd (iter (f11_odds_L33 s0 a0 p1) FU (Int64.ofNat 1, Int32.ofInt 0)) (fun o8 => match o8 with | e33_2 => ocl s0 a0 11 (obd (f11_begins s0 a0) (fun s23 => obd (iter (f11_odds_L100 a0 p1 e33_2) FU (Int64.ofNat 0, Int32.ofInt 0, s23)) (fun o24 => match o24 with | (e100_4, t100) => ocl t100 a0 11 (obd (f11_ends t100 a0) (fun s36 => obd (f11_common 100 e33_2 e100_4) (fun v38 => if p1 = 0 then (onzl v38 (some (e100_4 / v38, s36))) else (onzl v38 (some (e33_2 / v38, s36))))))))))) else (some ((-1000000003), s0)))))))
set_option maxRecDepth 100000 in
set_option maxHeartbeats 4000000 in
theorem c11_odds (l : Launch) (κ : KP) (A : Nat → Prop) (s0 : HM) (a0 : Nat) (p1 : Int32) {res : Int64 × HM} (hF : f11_odds s0 a0 p1 = some res) : Met l yX11_odds (Cond.code yX11_odds cX11_odds 8 (some .long) :: WT) (rmL 101 0 0) (PP κ A [.ref a0, .int p1] (HS κ A s0)) (QQ (some (.long res.1)) (HS κ A res.2) A) 0 0 A := by
  refine met_of (own := RX11) (by decide) rfl (Nat.le_of_ble_eq_true rfl) ?_
  intro Γ E hQ hL hR hA hent hini
  have hAA : ∀ q, A q → jA Γ q := fun q h => by rw [hA]; exact h
  have hroom : ∀ (d mL : Nat) {mc ms : Nat}, d < 101 → mL ≤ 21 → (rmL d mc ms).frames + 1 ≤ (jR Γ).frames ∧ 8 + (mL + 11) + (rmL d mc ms).locals ≤ (jR Γ).locals := fun d mL mc ms h1 h2 => by rw [hR]; exact rmL_le h1 h2
  show J Γ 8 (HS κ A s0) 0 0 0 [(0, .ref a0), (1, .int p1)] []
  unfold f11_odds at hF
  refine j_blk (pc' := 4) (lv' := [(0, .ref a0), (1, .int p1)]) (st' := [.long (Int64.ofNat 1), .long (Int64.ofNat 0), .long p1.toInt64]) E b_c11_odds_0_4 rfl ?_
  replace hF := obd_at hF
  obtain ⟨v2, he1, hF⟩ := hF
  refine j_calls [.long p1.toInt64, .long (Int64.ofNat 0), .long (Int64.ofNat 1)] [] E w_RX11_49 (hroom 0 6 (by decide) (by decide)) hAA (c11_isIn _ κ A (HS κ A s0) _ _ _  he1) (fun _ h => h) (fun _ _ _ h _ _ => h) rfl rfl (Nat.le_of_ble_eq_true rfl) d_c11_odds_4 ⟨Nat.zero_le _, Nat.zero_le _⟩ ?_
  refine j_if_ne (tgt := 14) E d_c11_odds_7 (by decide) (fun h3 => ?_) (fun h3 => ?_)
  · replace hF := g_f hF h3
    refine j_blk (pc' := 15) (lv' := [(0, .ref a0), (1, .int p1)]) (st' := [.ref a0]) E b_c11_odds_14_1 rfl ?_
    replace hF := obd_at hF
    obtain ⟨v4, ev4, hF⟩ := hF
    refine j_getf E fg_RX11_9 d_c11_odds_15 ev4 ?_
    refine j_blk (pc' := 19) (lv' := [(0, .ref a0), (1, .int p1)]) (st' := [.int (Int32.ofInt 0), v4]) E b_c11_odds_18_1 rfl ?_
    replace hF := orf_at hF
    obtain ⟨b5, rfl, hF⟩ := hF
    replace hF := obd_at hF
    obtain ⟨v6, ev6, hF⟩ := hF
    refine j_iald E d_c11_odds_19 ev6 ?_
    refine j_blk (pc' := 21) (lv' := [(0, .ref a0), (1, .int p1)]) (st' := [.int (Int32.ofInt 4), .int v6]) E b_c11_odds_20_1 rfl ?_
    refine j_icmp_le (tgt := 28) E d_c11_odds_21 (by decide) (fun h7 => ?_) (fun h7 => ?_)
    · replace hF := g_t hF h7
      refine j_blk (pc' := 33) (lv' := [(4, .int (Int32.ofInt 0)), (2, .long (Int64.ofNat 1)), (0, .ref a0), (1, .int p1)]) (st' := []) E b_c11_odds_28_4 rfl ?_
      refine j_lv [2, 3, 1, 0] rfl ?_
      replace hF := obd_at hF
      obtain ⟨o8, ho8, hF⟩ := hF
      have lpo8 : ∀ (fu : Nat) (w : Int64 × Int32) (o : Int64), iter (f11_odds_L33 s0 a0 p1) fu w = some o → (fun (o : Int64) => J Γ 8 (HS κ A s0) 0 0 90 [(0, .ref a0), (1, .int p1), (2, .long o)] []) o → (fun (w : Int64 × Int32) => J Γ 8 (HS κ A s0) 0 0 33 [(0, .ref a0), (1, .int p1), (2, .long w.1), (4, .int w.2)] []) w := by
        refine j_iter (P := fun (w : Int64 × Int32) => J Γ 8 (HS κ A s0) 0 0 33 [(0, .ref a0), (1, .int p1), (2, .long w.1), (4, .int w.2)] []) (G := fun (o : Int64) => J Γ 8 (HS κ A s0) 0 0 90 [(0, .ref a0), (1, .int p1), (2, .long o)] []) ?_
        rintro ⟨x33_2, x33_4⟩ q hF hI hO
        show J Γ 8 (HS κ A s0) 0 0 33 [(0, .ref a0), (1, .int p1), (2, .long x33_2), (4, .int x33_4)] []
        unfold f11_odds_L33 at hF
        refine j_blk (pc' := 36) (lv' := [(0, .ref a0), (1, .int p1), (2, .long x33_2), (4, .int x33_4)]) (st' := [.ref a0, .int x33_4]) E b_c11_odds_33_2 rfl ?_
        replace hF := obd_at hF
        obtain ⟨v9, ev9, hF⟩ := hF
        refine j_getf E fg_RX11_9 d_c11_odds_36 ev9 ?_
        refine j_blk (pc' := 40) (lv' := [(0, .ref a0), (1, .int p1), (2, .long x33_2), (4, .int x33_4)]) (st' := [.int (Int32.ofInt 0), v9, .int x33_4]) E b_c11_odds_39_1 rfl ?_
        replace hF := orf_at hF
        obtain ⟨b10, rfl, hF⟩ := hF
        replace hF := obd_at hF
        obtain ⟨v11, ev11, hF⟩ := hF
        refine j_iald E d_c11_odds_40 ev11 ?_
        refine j_icmp_ge (tgt := 90) E d_c11_odds_41 (by decide) (fun h12 => ?_) (fun h12 => ?_)
        · replace hF := g_t hF h12
          refine j_lv [0, 1, 2] rfl ?_
          exact hO _ (g_inj hF)
        · replace hF := g_f hF h12
          refine j_blk (pc' := 50) (lv' := [(5, .int (x33_4 + (Int32.ofInt 1))), (0, .ref a0), (1, .int p1), (2, .long x33_2), (4, .int x33_4)]) (st' := []) E b_c11_odds_44_4 rfl ?_
          refine j_lv [1, 2, 3, 4, 0] rfl ?_
          replace hF := obd_at hF
          obtain ⟨o13, ho13, hF⟩ := hF
          have lpo13 : ∀ (fu : Nat) (w : Int64 × Int32) (o : Int64), iter (f11_odds_L50 s0 a0 p1 x33_4) fu w = some o → (fun (o : Int64) => J Γ 8 (HS κ A s0) 0 0 84 [(0, .ref a0), (1, .int p1), (2, .long o), (4, .int x33_4)] []) o → (fun (w : Int64 × Int32) => J Γ 8 (HS κ A s0) 0 0 50 [(0, .ref a0), (1, .int p1), (2, .long w.1), (4, .int x33_4), (5, .int w.2)] []) w := by
            refine j_iter (P := fun (w : Int64 × Int32) => J Γ 8 (HS κ A s0) 0 0 50 [(0, .ref a0), (1, .int p1), (2, .long w.1), (4, .int x33_4), (5, .int w.2)] []) (G := fun (o : Int64) => J Γ 8 (HS κ A s0) 0 0 84 [(0, .ref a0), (1, .int p1), (2, .long o), (4, .int x33_4)] []) ?_
            rintro ⟨x50_2, x50_5⟩ q hF hI hO
            show J Γ 8 (HS κ A s0) 0 0 50 [(0, .ref a0), (1, .int p1), (2, .long x50_2), (4, .int x33_4), (5, .int x50_5)] []
            unfold f11_odds_L50 at hF
            refine j_blk (pc' := 53) (lv' := [(0, .ref a0), (1, .int p1), (2, .long x50_2), (4, .int x33_4), (5, .int x50_5)]) (st' := [.ref a0, .int x50_5]) E b_c11_odds_50_2 rfl ?_
            replace hF := obd_at hF
            obtain ⟨v14, ev14, hF⟩ := hF
            refine j_getf E fg_RX11_9 d_c11_odds_53 ev14 ?_
            refine j_blk (pc' := 57) (lv' := [(0, .ref a0), (1, .int p1), (2, .long x50_2), (4, .int x33_4), (5, .int x50_5)]) (st' := [.int (Int32.ofInt 0), v14, .int x50_5]) E b_c11_odds_56_1 rfl ?_
            replace hF := orf_at hF
            obtain ⟨b15, rfl, hF⟩ := hF
            replace hF := obd_at hF
            obtain ⟨v16, ev16, hF⟩ := hF
            refine j_iald E d_c11_odds_57 ev16 ?_
            refine j_icmp_ge (tgt := 84) E d_c11_odds_58 (by decide) (fun h17 => ?_) (fun h17 => ?_)
            · replace hF := g_t hF h17
              refine j_lv [0, 1, 2, 3] rfl ?_
              exact hO _ (g_inj hF)
            · replace hF := g_f hF h17
              refine j_blk (pc' := 65) (lv' := [(0, .ref a0), (1, .int p1), (2, .long x50_2), (4, .int x33_4), (5, .int x50_5)]) (st' := [.int x33_4, .ref a0, .long x50_2]) E b_c11_odds_61_3 rfl ?_
              replace hF := ocl_at hF
              obtain ⟨hc, hF⟩ := hF
              replace hF := obd_at hF
              obtain ⟨v19, he18, hF⟩ := hF
              refine j_callv [.int x33_4] [.long x50_2] E w_RX11_144 (hroom 1 2 (by decide) (by decide)) hAA (c11_skill _ κ A _ _ _  he18) (fun _ h => h) (fun _ _ _ h _ _ => h) (fun _ h => j_recv E h hc rfl) rfl rfl (Nat.le_of_ble_eq_true rfl) d_c11_odds_65 ⟨Nat.zero_le _, Nat.zero_le _⟩ ?_
              refine j_blk (pc' := 71) (lv' := [(0, .ref a0), (1, .int p1), (2, .long x50_2), (4, .int x33_4), (5, .int x50_5)]) (st' := [.int x50_5, .ref a0, .int v19, .long x50_2]) E b_c11_odds_68_2 rfl ?_
              replace hF := ocl_at hF
              obtain ⟨hc, hF⟩ := hF
              replace hF := obd_at hF
              obtain ⟨v21, he20, hF⟩ := hF
              refine j_callv [.int x50_5] [.int v19, .long x50_2] E w_RX11_144 (hroom 1 2 (by decide) (by decide)) hAA (c11_skill _ κ A _ _ _  he20) (fun _ h => h) (fun _ _ _ h _ _ => h) (fun _ h => j_recv E h hc rfl) rfl rfl (Nat.le_of_ble_eq_true rfl) d_c11_odds_71 ⟨Nat.zero_le _, Nat.zero_le _⟩ ?_
              refine j_blk (pc' := 81) (lv' := [(5, .int (x50_5 + Int32.ofInt 1)), (2, .long (x50_2 * ((v19 + v21).toInt64))), (0, .ref a0), (1, .int p1), (4, .int x33_4)]) (st' := []) E b_c11_odds_74_5 rfl ?_
              refine j_goto (tgt := 50) E d_c11_odds_81 (by decide) ?_
              refine j_lv [2, 3, 1, 4, 0] rfl ?_
              exact hI _ (g_inj hF)
          refine lpo13 FU (x33_2, x33_4 + (Int32.ofInt 1)) o13 ho13 ?_
          obtain ⟨e50_2, rfl⟩ : ∃ z, z = o13 := ⟨_, rfl⟩
          show J Γ 8 (HS κ A s0) 0 0 84 [(0, .ref a0), (1, .int p1), (2, .long e50_2), (4, .int x33_4)] []
          refine j_blk (pc' := 87) (lv' := [(4, .int (x33_4 + Int32.ofInt 1)), (0, .ref a0), (1, .int p1), (2, .long e50_2)]) (st' := []) E b_c11_odds_84_1 rfl ?_
          refine j_goto (tgt := 33) E d_c11_odds_87 (by decide) ?_
          refine j_lv [1, 2, 3, 0] rfl ?_
          exact hI _ (g_inj hF)
      refine lpo8 FU (Int64.ofNat 1, Int32.ofInt 0) o8 ho8 ?_
      obtain ⟨e33_2, rfl⟩ : ∃ z, z = o8 := ⟨_, rfl⟩
      show J Γ 8 (HS κ A s0) 0 0 90 [(0, .ref a0), (1, .int p1), (2, .long e33_2)] []
      refine j_blk (pc' := 94) (lv' := [(4, .long (Int64.ofNat 0)), (0, .ref a0), (1, .int p1), (2, .long e33_2)]) (st' := [.ref a0]) E b_c11_odds_90_3 rfl ?_
      replace hF := ocl_at hF
      obtain ⟨hc, hF⟩ := hF
      replace hF := obd_at hF
      obtain ⟨s23, he22, hF⟩ := hF
      refine j_callv [] [] E w_RX11_177 (hroom 1 1 (by decide) (by decide)) hAA (c11_begins _ κ A _ _  he22) (fun _ h => h) (fun _ _ _ h _ _ => h) (fun _ h => j_recv E h hc rfl) rfl rfl (Nat.le_of_ble_eq_true rfl) d_c11_odds_94 ⟨Nat.zero_le _, Nat.zero_le _⟩ ?_
      refine j_blk (pc' := 100) (lv' := [(6, .int (Int32.ofInt 0)), (4, .long (Int64.ofNat 0)), (0, .ref a0), (1, .int p1), (2, .long e33_2)]) (st' := []) E b_c11_odds_97_2 rfl ?_
      refine j_lv [2, 3, 4, 1, 0] rfl ?_
      replace hF := obd_at hF
      obtain ⟨o24, ho24, hF⟩ := hF
      have lpo24 : ∀ (fu : Nat) (w : Int64 × Int32 × HM) (o : Int64 × HM), iter (f11_odds_L100 a0 p1 e33_2) fu w = some o → (fun (o : Int64 × HM) => J Γ 8 (HS κ A o.2) 0 0 143 [(0, .ref a0), (1, .int p1), (2, .long e33_2), (4, .long o.1)] []) o → (fun (w : Int64 × Int32 × HM) => J Γ 8 (HS κ A w.2.2) 0 0 100 [(0, .ref a0), (1, .int p1), (2, .long e33_2), (4, .long w.1), (6, .int w.2.1)] []) w := by
        refine j_iter (P := fun (w : Int64 × Int32 × HM) => J Γ 8 (HS κ A w.2.2) 0 0 100 [(0, .ref a0), (1, .int p1), (2, .long e33_2), (4, .long w.1), (6, .int w.2.1)] []) (G := fun (o : Int64 × HM) => J Γ 8 (HS κ A o.2) 0 0 143 [(0, .ref a0), (1, .int p1), (2, .long e33_2), (4, .long o.1)] []) ?_
        rintro ⟨x100_4, x100_6, s100⟩ q hF hI hO
        show J Γ 8 (HS κ A s100) 0 0 100 [(0, .ref a0), (1, .int p1), (2, .long e33_2), (4, .long x100_4), (6, .int x100_6)] []
        unfold f11_odds_L100 at hF
        refine j_blk (pc' := 104) (lv' := [(0, .ref a0), (1, .int p1), (2, .long e33_2), (4, .long x100_4), (6, .int x100_6)]) (st' := [.ref a0, .int (Int32.ofInt 1), .int x100_6]) E b_c11_odds_100_3 rfl ?_
        replace hF := ocl_at hF
        obtain ⟨hc, hF⟩ := hF
        replace hF := obd_at hF
        obtain ⟨v26, he25, hF⟩ := hF
        refine j_callv [] [.int (Int32.ofInt 1), .int x100_6] E w_RX11_191 (hroom 0 1 (by decide) (by decide)) hAA (c11_matches _ κ A _ _  he25) (fun _ h => h) (fun _ _ _ h _ _ => h) (fun _ h => j_recv E h hc rfl) rfl rfl (Nat.le_of_ble_eq_true rfl) d_c11_odds_104 ⟨Nat.zero_le _, Nat.zero_le _⟩ ?_
        refine j_blk (pc' := 108) (lv' := [(0, .ref a0), (1, .int p1), (2, .long e33_2), (4, .long x100_4), (6, .int x100_6)]) (st' := [.int ((Int32.ofInt 1) <<< (v26 &&& 31)), .int x100_6]) E b_c11_odds_107_1 rfl ?_
        refine j_icmp_ge (tgt := 143) E d_c11_odds_108 (by decide) (fun h27 => ?_) (fun h27 => ?_)
        · replace hF := g_t hF h27
          refine j_lv [0, 1, 2, 3] rfl ?_
          exact hO _ (g_inj hF)
        · replace hF := g_f hF h27
          refine j_blk (pc' := 114) (lv' := [(0, .ref a0), (1, .int p1), (2, .long e33_2), (4, .long x100_4), (6, .int x100_6)]) (st' := [.int x100_6, .ref a0]) E b_c11_odds_111_2 rfl ?_
          replace hF := ocl_at hF
          obtain ⟨hc, hF⟩ := hF
          replace hF := obd_at hF
          obtain ⟨s29, he28, hF⟩ := hF
          refine j_callv [.int x100_6] [] E w_RX11_194 (hroom 2 5 (by decide) (by decide)) hAA (c11_plays _ κ A _ _ _  he28) (fun _ h => h) (fun _ _ _ h _ _ => h) (fun _ h => j_recv E h hc rfl) rfl rfl (Nat.le_of_ble_eq_true rfl) d_c11_odds_114 ⟨Nat.zero_le _, Nat.zero_le _⟩ ?_
          refine j_blk (pc' := 120) (lv' := [(0, .ref a0), (1, .int p1), (2, .long e33_2), (4, .long x100_4), (6, .int x100_6)]) (st' := [.ref a0, .long x100_4]) E b_c11_odds_117_2 rfl ?_
          replace hF := ocl_at hF
          obtain ⟨hc, hF⟩ := hF
          replace hF := obd_at hF
          obtain ⟨v31, he30, hF⟩ := hF
          refine j_callv [] [.long x100_4] E w_RX11_153 (hroom 3 3 (by decide) (by decide)) hAA (c11_isLawful _ κ A _ _  he30) (fun _ h => h) (fun _ _ _ h _ _ => h) (fun _ h => j_recv E h hc rfl) rfl rfl (Nat.le_of_ble_eq_true rfl) d_c11_odds_120 ⟨Nat.zero_le _, Nat.zero_le _⟩ ?_
          refine j_if_eq (tgt := 133) E d_c11_odds_123 (by decide) (fun h32 => ?_) (fun h32 => ?_)
          · replace hF := g_t hF h32
            refine j_blk (pc' := 140) (lv' := [(6, .int (x100_6 + Int32.ofInt 1)), (4, .long (x100_4 + (Int64.ofNat 0))), (0, .ref a0), (1, .int p1), (2, .long e33_2)]) (st' := []) E b_c11_odds_133_4 rfl ?_
            refine j_goto (tgt := 100) E d_c11_odds_140 (by decide) ?_
            refine j_lv [2, 3, 4, 1, 0] rfl ?_
            exact hI _ (g_inj hF)
          · replace hF := g_f hF h32
            refine j_blk (pc' := 127) (lv' := [(0, .ref a0), (1, .int p1), (2, .long e33_2), (4, .long x100_4), (6, .int x100_6)]) (st' := [.ref a0, .long x100_4]) E b_c11_odds_126_1 rfl ?_
            replace hF := ocl_at hF
            obtain ⟨hc, hF⟩ := hF
            replace hF := obd_at hF
            obtain ⟨v34, he33, hF⟩ := hF
            refine j_callv [] [.long x100_4] E w_RX11_197 (hroom 2 5 (by decide) (by decide)) hAA (c11_weightNow _ κ A _ _  he33) (fun _ h => h) (fun _ _ _ h _ _ => h) (fun _ h => j_recv E h hc rfl) rfl rfl (Nat.le_of_ble_eq_true rfl) d_c11_odds_127 ⟨Nat.zero_le _, Nat.zero_le _⟩ ?_
            refine j_goto (tgt := 134) E d_c11_odds_130 (by decide) ?_
            refine j_blk (pc' := 140) (lv' := [(6, .int (x100_6 + Int32.ofInt 1)), (4, .long (x100_4 + v34)), (0, .ref a0), (1, .int p1), (2, .long e33_2)]) (st' := []) E b_c11_odds_134_3 rfl ?_
            refine j_goto (tgt := 100) E d_c11_odds_140 (by decide) ?_
            refine j_lv [2, 3, 4, 1, 0] rfl ?_
            exact hI _ (g_inj hF)
      refine lpo24 FU (Int64.ofNat 0, Int32.ofInt 0, s23) o24 ho24 ?_
      obtain ⟨e100_4, t100⟩ := o24
      show J Γ 8 (HS κ A t100) 0 0 143 [(0, .ref a0), (1, .int p1), (2, .long e33_2), (4, .long e100_4)] []
      refine j_blk (pc' := 144) (lv' := [(0, .ref a0), (1, .int p1), (2, .long e33_2), (4, .long e100_4)]) (st' := [.ref a0]) E b_c11_odds_143_1 rfl ?_
      replace hF := ocl_at hF
      obtain ⟨hc, hF⟩ := hF
      replace hF := obd_at hF
      obtain ⟨s36, he35, hF⟩ := hF
      refine j_callv [] [] E w_RX11_180 (hroom 1 1 (by decide) (by decide)) hAA (c11_ends _ κ A _ _  he35) (fun _ h => h) (fun _ _ _ h _ _ => h) (fun _ h => j_recv E h hc rfl) rfl rfl (Nat.le_of_ble_eq_true rfl) d_c11_odds_144 ⟨Nat.zero_le _, Nat.zero_le _⟩ ?_
      refine j_blk (pc' := 150) (lv' := [(0, .ref a0), (1, .int p1), (2, .long e33_2), (4, .long e100_4)]) (st' := [.long e100_4, .long e33_2]) E b_c11_odds_147_2 rfl ?_
      replace hF := obd_at hF
      obtain ⟨v38, he37, hF⟩ := hF
      refine j_calls [.long e33_2, .long e100_4] [] E w_RX11_183 (hroom 100 4 (by decide) (by decide)) hAA (c11_common _ κ A 100 (HS κ A s36) _ _  he37) (fun _ h => h) (fun _ _ _ h _ _ => h) rfl rfl (Nat.le_of_ble_eq_true rfl) d_c11_odds_150 ⟨Nat.zero_le _, Nat.zero_le _⟩ ?_
      refine j_blk (pc' := 156) (lv' := [(6, .long v38), (0, .ref a0), (1, .int p1), (2, .long e33_2), (4, .long e100_4)]) (st' := [.int p1]) E b_c11_odds_153_2 rfl ?_
      refine j_if_ne (tgt := 167) E d_c11_odds_156 (by decide) (fun h39 => ?_) (fun h39 => ?_)
      · replace hF := g_f hF h39
        refine j_blk (pc' := 170) (lv' := [(6, .long v38), (0, .ref a0), (1, .int p1), (2, .long e33_2), (4, .long e100_4)]) (st' := [.long v38, .long e33_2]) E b_c11_odds_167_2 rfl ?_
        replace hF := onzl_at hF
        obtain ⟨h0, hF⟩ := hF
        refine j_ldiv E d_c11_odds_170 h0 ?_
        have e : res = (e33_2 / v38, s36) := g_inj hF
        subst e
        exact j_lret E hQ d_c11_odds_171 (fun _ h => h)
      · replace hF := g_t hF h39
        refine j_blk (pc' := 163) (lv' := [(6, .long v38), (0, .ref a0), (1, .int p1), (2, .long e33_2), (4, .long e100_4)]) (st' := [.long v38, .long e100_4]) E b_c11_odds_159_2 rfl ?_
        replace hF := onzl_at hF
        obtain ⟨h0, hF⟩ := hF
        refine j_ldiv E d_c11_odds_163 h0 ?_
        refine j_goto (tgt := 171) E d_c11_odds_164 (by decide) ?_
        have e : res = (e100_4 / v38, s36) := g_inj hF
        subst e
        exact j_lret E hQ d_c11_odds_171 (fun _ h => h)
    · replace hF := g_f hF h7
      refine j_ldc2 (u := (-1000000003)) E d_c11_odds_24 m_1064 ?_
      have e : res = ((-1000000003), s0) := g_inj hF
      subst e
      exact j_lret E hQ d_c11_odds_27 (fun _ h => h)
  · replace hF := g_t hF h3
    refine j_ldc2 (u := (-1000000001)) E d_c11_odds_10 m_1063 ?_
    have e : res = ((-1000000001), s0) := g_inj hF
    subst e
    exact j_lret E hQ d_c11_odds_13 (fun _ h => h)
