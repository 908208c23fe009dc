/-! PURE: ways -/
theorem d_0and (x : Int32) : Int32.ofInt 0 &&& x = 0 := by
  apply d_bx
  intro j _
  rw [d_band, d_bz, d_bz0]; rfl
def d_gw (n : Nat) (lw : Int32) (u : Nat → Nat → Bool) : Nat := (d_lw n (fun _ => 0) (fun _ => 0) (d_ub n u) lw).toNat
theorem d_gt_w {n : Nat} {K F : Nat → Nat} {lw : Int32} {t : Nat → Int32} (hn : n ≤ 8) (hk : ∀ i, i < n → K i = 0 ∧ F i = 0) (u : Nat → Nat → Bool) : d_gt n K F lw (fun j => if j < 8 then Int32.ofInt 0 else t j) u = d_gw n lw u := by
  unfold d_gt d_gw
  have h1 : d_tok n (fun j => if j < 8 then Int32.ofInt 0 else t j) (d_ub n u) = true := by
    unfold d_tok
    rw [decide_eq_true_eq]
    intro i hi
    show (if i < 8 then Int32.ofInt 0 else t i) &&& _ = 0
    rw [if_pos (by omega), d_0and]
  rw [h1, d_lw_c (K' := fun _ => 0) (F' := fun _ => 0) (B' := d_ub n u) lw (fun i hi => ⟨(hk i hi).1, (hk i hi).2, rfl⟩)]
  rfl
theorem sD_ways (a ma : Nat) : S_ways (d_R a ma) a ma := by
  intro X M nx p1 p2 hR
  have hR0 := hR
  obtain ⟨hi, hX, ha, ⟨th, po, ba, en, lt, lp, sd, hM⟩, ⟨P, K, F, n0, lw, B, S, G, hG, hS0, hS⟩, -, ⟨⟨P', K', F', n', lw', B', G'⟩, ⟨tt, htt⟩, hpl, -, ⟨T0, hT0⟩, -⟩, -⟩ := hR0
  have r1 := (d_12 p1 (Int32.ofInt 1) (by decide : (Int32.ofInt 1).toInt = 1)).1
  have r2 : (Int32.ofInt 5 < p1) ↔ 5 < p1.toInt := by rw [Int32.lt_iff_toInt_lt, show (Int32.ofInt 5).toInt = 5 by decide]
  have ii : f11_isIn p1.toInt64 (Int64.ofNat 1) 5 = some (if 1 ≤ p1.toInt ∧ p1.toInt ≤ 5 then 1 else 0) := by
    rw [isIn_e, Int32.toInt_toInt64, show (Int64.ofNat 1).toInt = 1 by decide, show (5 : Int64).toInt = 5 by decide]
  by_cases hp : 1 ≤ p1.toInt ∧ p1.toInt ≤ 5
  · by_cases hl : p2.toInt = 1 ∨ p2.toInt = 2
    · obtain ⟨n, hn, e, em⟩ := d_pn (p := p1) (m := 5) (by omega) (by omega)
      have hlw : p2 = 1 ∨ p2 = 2 := hl.imp (fun e => Int32.toInt_inj.mp (e.trans (by decide))) (fun e => Int32.toInt_inj.mp (e.trans (by decide)))
      obtain ⟨m10, m1024⟩ := d_2m hn
      have n8 : n0 ≤ 8 := G.1.2.2
      -- the class
      have G0 := G'
      obtain ⟨⟨⟨c1, PA, c2, c3⟩, c4, c5⟩, c6, c7⟩ := G0
      let X1 : Nat → Option HO := va_up X (a + 5) (some (.inl (2, [.ref (a + 5 + 1), .ref (a + 5 + 2), .int (Int32.ofInt 0), .int lw'])))
      let X2 : Nat → Option HO := va_up X1 (a + 5) (some (.inl (2, [.ref (a + 5 + 1), .ref (a + 5 + 2), .int (Int32.ofInt 0), .int p2])))
      have u : ∀ q, q ≠ a + 5 → X2 q = X q := fun q h => (va_up_ne _ _ h).trans (va_up_ne _ _ h)
      have hX1 : d_CX X1 a hi := (va_up_ne _ _ (by omega)).trans hX
      have hX2 : d_CX X2 a hi := (u a (by omega)).trans hX
      have q1 : hput (X, nx) [2] 2 (a + 5) (.int (Int32.ofInt 0)) = some (X1, nx) := by
        unfold hput hobj
        simp only [c1]
        rfl
      have q2 : hput (X1, nx) [2] 3 (a + 5) (.int p2) = some (X2, nx) := by
        unfold hput hobj
        simp only [show X1 (a + 5) = _ from va_up_self _ _ _]
        rfl
      have G2 : d_LG a nx X2 (a + 5) P' K' F' 0 p2 B' := by
        refine ⟨⟨⟨va_up_self _ _ _, PA, (u _ (by omega)).trans c2, c3⟩, fun i hi => ⟨⟨(u _ ?_).trans (c4 i hi).1.1, (c4 i hi).1.2⟩, (c4 i hi).2⟩, by omega⟩, (u _ (by omega)).trans c6, c7⟩
        have := c7 i hi
        unfold d_ok at this
        omega
      obtain ⟨r, s1, X3, P3, K3, F3, B3, rfl, s2, s3, s4⟩ := d_it (step := f10_ways_L37 a p1) (fun k st => ∃ X' P K F B, st = (Int32.ofNat k, ((X', nx) : HM)) ∧ d_LG a nx X' (a + 5) P K F k p2 B ∧ (∀ i, i < k → K i = 0 ∧ F i = 0) ∧ ∀ q, ¬ (a + 5 ≤ q ∧ q ≤ a + 7) → X' q = X q) (fun r => ∃ X' P K F B, r = ((X', nx) : HM) ∧ d_LG a nx X' (a + 5) P K F n p2 B ∧ (∀ i, i < n → K i = 0 ∧ F i = 0) ∧ ∀ q, ¬ (a + 5 ≤ q ∧ q ≤ a + 7) → X' q = X q) n (by
          rintro k st hk ⟨X', P, K, F, B, rfl, t1, t2, t3⟩
          have hX' : d_CX X' a hi := (t3 a (by omega)).trans hX
          have pe : d_PE X' (a + 1) 0 0 := ⟨(t3 _ (by omega)).trans hpl.1, hpl.2⟩
          obtain ⟨X'', y1, y2, y3⟩ := x_seat (nx := nx) t1 (show k ≤ 7 by omega) (Or.inl rfl) pe (fun k hk => by rw [Nat.add_assoc]; exact d_nok (by omega) (by omega)) nx
          have cp : hfld (X', nx) [10] 0 a = some (.ref (a + 1)) := c_f hX'
          unfold f10_ways_L37
          simp only [e, d_lef hk (by omega), if_false, c_draft hX', cp, obd, orf, d_ocl (d_hcls (σ := (X', nx)) t1.1.1.1), y1, d_su]
          refine Or.inl ⟨_, rfl, X'', _, _, _, _, rfl, y2, fun i hi => ?_, fun q hq => (y3 q (by omega) (by omega) (by omega)).trans (t3 q hq)⟩
          by_cases z : i = k
          · rw [z, va_up_self, va_up_self]; exact ⟨rfl, rfl⟩
          · rw [va_up_ne _ _ z, va_up_ne _ _ z]; exact t2 i (by omega)) (by
          rintro st ⟨X', P, K, F, B, rfl, t1, t2, t3⟩
          unfold f10_ways_L37
          simp only [e, d_let, if_true]
          exact ⟨_, rfl, X', P, K, F, B, rfl, t1, t2, t3⟩) FU 0 (Int32.ofInt 0, ((X2, nx) : HM)) (by omega) (by unfold FU; omega) ⟨X2, P', K', F', B', rfl, G2, fun i hi => by omega, fun q hq => u q (by omega)⟩
      have hX3 : d_CX X3 a hi := (s4 a (by omega)).trans hX
      have ht3 : X3 (a + 13) = d_A 8 tt := (s4 _ (by omega)).trans htt
      let X4 : Nat → Option HO := va_up X3 (a + 13) (d_A 8 (fun j => if j < 8 then Int32.ofInt 0 else tt j))
      have hX4 : d_CX X4 a hi := (va_up_ne _ _ (by omega)).trans hX3
      have G4 : d_LG a nx X4 (a + 5) P3 K3 F3 n p2 B3 := d_LG_fr s2 (Nat.le_refl _) (fun q hq => va_up_ne _ _ (by have := (d_ok_lt ha hq).2.1; omega)) (va_up_ne _ _ (by omega)) (va_up_ne _ _ (by omega)) (va_up_ne _ _ (by omega))
      obtain ⟨X5, w1, w2, w3⟩ := x_ways (nx := nx) hX4 G4 hn (va_up_self _ _ _)
      rw [d_sum_c (g := fun w => d_gw n p2 (d_ux w)) (fun w _ => d_gt_w (by omega) s3 (d_ux w)), d_perm hn (d_gw n p2) (fun u u' h => by unfold d_gw; rw [d_ub_lc _ _ _ h])] at w1
      -- the model
      let Zb : Nat → Option HO := va_up M (ma + 4) (d_A 26 (d_ov S T0))
      have hZb : d_MO Zb ma hi th po ba en lt lp sd := (va_up_ne _ _ (by omega)).trans hM
      have ZZ := d_MO_Z hZb
      have eZ : d_mS Zb ma S = Zb := d_mS_e ((va_up_ne _ _ (by omega)).trans hS0)
      have S2 : d_MS (upd (upd S 0 (Int32.ofInt 0)) 1 p2) 0 K F B p2 := ⟨(if_neg (by omega)).trans (if_pos rfl), if_pos rfl, fun i hi => by omega⟩
      obtain ⟨rm, y1, S3, K5, F5, B5, rfl, y2, y3, y4⟩ := d_it (step := f11_ways_L41 ma p1) (fun k st => ∃ S' K F B, st = (Int32.ofNat k, ((d_mS Zb ma S', nx) : HM)) ∧ d_MS S' k K F B p2 ∧ d_TB k B ∧ ∀ i, i < k → K i = 0 ∧ F i = 0) (fun r => ∃ S' K F B, r = ((d_mS Zb ma S', nx) : HM) ∧ d_MS S' n K F B p2 ∧ d_TB n B ∧ ∀ i, i < n → K i = 0 ∧ F i = 0) n (by
          rintro k st hk ⟨S', K, F, B, rfl, t1, t2, t3⟩
          obtain ⟨S2, u1, u2⟩ := m_joins (nx := nx) (k := 0) (f := 0) ZZ t1 (show k ≤ 7 by omega)
          have u1' : f11_joins (d_mS Zb ma S', nx) ma (Int32.ofInt 0) (Int32.ofInt 0) = some (d_mS Zb ma S2, nx) := u1
          unfold f11_ways_L41
          simp only [e, d_lef hk (by omega), if_false, m_c ZZ, u1', obd, d_su]
          refine Or.inl ⟨_, rfl, S2, _, _, _, rfl, u2, d_TB_seat (by omega) t2, fun i hi => ?_⟩
          by_cases z : i = k
          · rw [z, va_up_self, va_up_self]; exact ⟨rfl, rfl⟩
          · rw [va_up_ne _ _ z, va_up_ne _ _ z]; exact t3 i (by omega)) (by
          rintro st ⟨S', K, F, B, rfl, t1, t2, t3⟩
          unfold f11_ways_L41
          simp only [e, d_let, if_true]
          exact ⟨_, rfl, S', K, F, B, rfl, t1, t2, t3⟩) FU 0 (Int32.ofInt 0, ((d_mS Zb ma (upd (upd S 0 (Int32.ofInt 0)) 1 p2), nx) : HM)) (by omega) (by unfold FU; omega) ⟨_, K, F, B, rfl, S2, ⟨fun i hi => by omega, fun i hi => by omega, fun i j hi => by omega⟩, fun i hi => by omega⟩
      have kf : d_KF n K5 F5 := fun i hi => by rw [(y4 i hi).1, (y4 i hi).2]; omega
      obtain ⟨rk, z1, S6, rfl⟩ := d_it (step := f11_ways_L63 ma) (fun w st => ∃ S' B', st = (Int32.ofNat (d_sum w (fun w => d_gw n p2 (d_um n w))), Int32.ofNat w, ((d_mS Zb ma S', nx) : HM)) ∧ d_MS S' n K5 F5 B' p2 ∧ d_TB n B') (fun r => ∃ S', r = (Int32.ofNat (d_sum (2 ^ (n * (n - 1) / 2)) (fun w => d_gw n p2 (d_um n w))), ((d_mS Zb ma S', nx) : HM))) (2 ^ (n * (n - 1) / 2)) (by
          rintro w st hw ⟨S', B', rfl, t1, t2⟩
          obtain ⟨S7, B7, v1, v2, v3, v4⟩ := m_plays (nx := nx) ZZ B' t1 (show n ≤ 8 by omega) t2 (Int32.ofNat w)
          have ml := m_lawful (nx := nx) ZZ v2 (show n ≤ 8 by omega) kf v3 hlw
          rw [d_ub_lw (u := d_um n w) K5 F5 p2 (show n ≤ 8 by omega) v3 v4, d_lw_c (K' := fun _ => 0) (F' := fun _ => 0) (B' := d_ub n (d_um n w)) p2 (fun i hi => ⟨(y4 i hi).1, (y4 i hi).2, rfl⟩)] at ml
          unfold f11_ways_L63
          simp only [m_c ZZ, m_matches ZZ t1 (show n ≤ 8 by omega), obd, d_one_e (show n * (n - 1) / 2 < 32 by omega), d_one_n (show n * (n - 1) / 2 < 31 by omega), d_lef hw (by omega), if_false, v1, ml, d_i0, d_su, d_su0]
          refine Or.inl ⟨(Int32.ofNat (d_sum w (fun w => d_gw n p2 (d_um n w)) + d_gw n p2 (d_um n w)), Int32.ofNat (w + 1), ((d_mS Zb ma S7, nx) : HM)), ?_, S7, B7, rfl, v2, v3⟩
          unfold d_gw
          cases d_lw n (fun _ => 0) (fun _ => 0) (d_ub n (d_um n w)) p2 <;> rfl) (by
          rintro st ⟨S', B', rfl, t1, t2⟩
          unfold f11_ways_L63
          simp only [m_c ZZ, m_matches ZZ t1 (show n ≤ 8 by omega), obd, d_one_e (show n * (n - 1) / 2 < 32 by omega), d_one_n (show n * (n - 1) / 2 < 31 by omega), d_let, if_true]
          exact ⟨_, rfl, S', rfl⟩) FU 0 (Int32.ofInt 0, Int32.ofInt 0, ((d_mS Zb ma S3, nx) : HM)) (Nat.zero_le _) (by unfold FU; omega) ⟨S3, B5, rfl, y2, y3⟩
      refine ⟨Int32.ofNat (d_sum (2 ^ (n * (n - 1) / 2)) (fun w => d_gw n p2 (d_um n w))), X5, nx, d_mS Zb ma (d_ov (d_ov S T0) S6), nx, ?_, ?_, d_R_dm hR (Nat.le_refl _) (fun q _ h1 h2 => (w3 q h1).trans ((va_up_ne _ _ h2).trans (s4 q h1))) w2 ⟨_, (w3 _ (by omega)).trans (va_up_self _ _ _)⟩ (d_S_keep n8 hS0 hS (d_MS_c n8 (fun i hi => (d_ov_i i hi).trans (d_ov_i i hi)) hS))⟩
      · unfold f10_ways
        rw [if_neg (fun q => by rw [r1] at q; omega), if_neg (fun q => by rw [r2] at q; omega), isLaw_x, if_pos hl]
        simp only [obd, if_neg (show ¬ (1 : Int32) = 0 by decide), c_draft hX, orf, q1, c_draft hX1, q2, s1, c_c hX3, x_clear (nx := nx) hX3 ht3]
        rw [show ((va_up X3 (a + 13) (d_A 8 (fun j => if j < 8 then Int32.ofInt 0 else tt j)), nx) : HM) = (X4, nx) from rfl]
        simp only [c_c hX4, w1]
      · unfold f11_ways
        rw [ii, if_pos hp, isLaw_m, if_pos hl]
        simp only [obd, if_neg (show ¬ (1 : Int32) = 0 by decide), n_c hM, m_begins hM hS0 hT0]
        rw [show ((va_up M (ma + 4) (d_A 26 (d_ov S T0)), nx) : HM) = (d_mS Zb ma S, nx) from by rw [eZ]]
        simp only [m_f0 ZZ, orf, m_st0, m_st1, y1, z1, m_c ZZ, m_ends hZb (T := d_ov S T0) (va_up_self _ _ _)]
    · refine ⟨Int32.ofInt (-1), X, nx, M, nx, ?_, ?_, hR⟩
      · unfold f10_ways
        rw [if_neg (fun q => by rw [r1] at q; omega), if_neg (fun q => by rw [r2] at q; omega), isLaw_x, if_neg hl]
        simp only [obd, if_true]
      · unfold f11_ways
        rw [ii, if_pos hp, isLaw_m, if_neg hl]
        simp only [obd, if_neg (show ¬ (1 : Int32) = 0 by decide), if_true]
  · refine ⟨Int32.ofInt (-1), X, nx, M, nx, ?_, ?_, hR⟩
    · unfold f10_ways
      by_cases h1 : p1 < Int32.ofInt 1
      · rw [if_pos h1]
      · rw [if_neg h1, if_pos]
        rw [r1] at h1
        rw [r2]
        omega
    · unfold f11_ways
      rw [ii, if_neg hp]
      simp only [obd, if_true]
