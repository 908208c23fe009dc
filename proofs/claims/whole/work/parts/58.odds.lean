/-! PURE: odds, the call -/
theorem x_k125 {c v : Nat} (hc : 1 ≤ c) (hc2 : c < 4611686018427387904) (hv : v < 4611686018427387904) (s : HM) : f10_odds_K125 s (d_L c) (d_L v) = some (d_L (v / c), s) := by
  unfold f10_odds_K125
  by_cases h : c = 1
  · subst h
    rw [if_pos ((lg_cmp_le _ _).mpr (by show d_L 1 ≤ d_L 1; simp)), Nat.div_one]
  · have h1 : ¬ lg_cmp (d_L c) (Int64.ofNat 1) ≤ 0 := fun q => by
      have := (lg_cmp_le _ _).mp q
      rw [Int64.le_iff_toInt_le, show (Int64.ofNat 1).toInt = 1 by decide, d_Lt hc2] at this
      omega
    have nz : ¬ d_L c = d_L 0 := by rw [d_Le hc2 (by omega)]; omega
    have nz0 : ¬ d_L c = 0 := nz
    rw [if_neg h1, onzl, if_neg nz0, d_Ld hv hc2]
theorem sD_odds (a ma : Nat) : S_odds (d_R a ma) a ma := by
  intro X M nx p1 hR
  have hR0 := hR
  obtain ⟨hi, hX, ha, ⟨th, po, ba, en, lt, lp, sd, hM⟩, ⟨P, K, F, n, lw, B, S, G, hG, hS0, hS⟩, -, ⟨⟨P', K', F', n', lw', B', G'⟩, ⟨tt, htt⟩, hpl, -, ⟨T0, hT0⟩, -⟩, -⟩ := hR0
  have Z := d_MO_Z hM
  have eM := d_mS_e hS0
  have hn : n ≤ 8 := G.1.2.2
  have one : ∀ p : Int32, f11_isIn p.toInt64 (Int64.ofNat 0) (Int64.ofNat 1) = some (d_i (d_is 2 p)) := fun p => m_in p _ 2 (by decide)
  have z0 : hfld (M, nx) [11] 0 ma = some (.ref (ma + 1)) := n_f hM
  have z1 : hald (M, nx) (ma + 1) (Int32.ofInt 0) = some (Int32.ofNat n) := (d_ald (σ := (M, nx)) (i := 0) hS0 (by omega) (by omega)).trans (by rw [hS.1])
  have nx0 : hfi (X, nx) [2] 2 (a + 2) = some (Int32.ofNat n) := d_hfi (σ := (X, nx)) G.1.1.1 rfl rfl
  have le4 : (Int32.ofNat n ≤ Int32.ofInt 4) = (n ≤ 4) := d_le (j := 4) (show n < 2147483648 by omega) (by omega)
  cases e4 : d_is 2 p1 with
  | false =>
    refine ⟨-1000000001, X, nx, M, nx, ?_, ?_, hR⟩
    · unfold f10_odds
      by_cases h1 : p1 < 0
      · rw [if_pos h1]
      · rw [if_neg h1, if_neg (d_le1 e4 h1)]
    · unfold f11_odds
      simp only [one, e4, obd, d_i0, if_true]
  | true =>
    obtain ⟨t, ht, rfl⟩ := d_is_n e4
    by_cases h4 : n ≤ 4
    · obtain ⟨m10, m1024⟩ := d_2m (show n ≤ 5 by omega)
      have kf : d_KF n K F := d_LX_KF G.1
      obtain ⟨al1, al2⟩ := d_Al_b h4 kf
      have ab := d_above_b (K := K) (F := F) lw h4
      -- the class
      obtain ⟨X1, B1, k1, k2, k3, k4⟩ := x_become (nx := nx) (ad := a + 5) (bd := a + 2) (by omega) (fun k hk => by rw [Nat.add_assoc]; exact d_nok (by omega) (by omega)) G' G
      have hX1 : d_CX X1 a hi := (k4 a (by omega) (by omega) (by omega)).trans hX
      have hXq : ∀ B, d_CX (d_cB X1 (a + 5) B) a hi := fun B => (d_cB_ne (by omega)).trans hX1
      have L := k3.1
      obtain ⟨r, x1, B2, rfl⟩ := d_it (step := f10_odds_L47 a (Int32.ofNat t)) (fun w st => ∃ B', st = (d_L (d_sum w (fun w => d_gA n K F lw (d_ux w))), d_L (d_sum w (fun w => d_W n K F (d_ux w))), Int32.ofNat w, ((d_cB X1 (a + 5) B', nx) : HM))) (fun r => ∃ B', r = (d_L (d_sum (2 ^ (n * (n - 1) / 2)) (fun w => d_gA n K F lw (d_ux w))), d_L (d_sum (2 ^ (n * (n - 1) / 2)) (fun w => d_W n K F (d_ux w))), ((d_cB X1 (a + 5) B', nx) : HM))) (2 ^ (n * (n - 1) / 2)) (by
          rintro w st hw ⟨B', rfl⟩
          obtain ⟨B2, p1, p2, p3⟩ := x_play (nx := nx) L B' (Int32.ofNat w)
          have xl := x_lawful (nx := nx) L p2
          rw [d_ub_lw (u := d_ux w) K F lw hn p2 p3] at xl
          have xw := x_weight (nx := nx) (u := d_ux w) L p3
          unfold f10_odds_L47
          simp only [c_draft (hXq _), obd, orf, x_c L, x_matches L, d_one_e (show n * (n - 1) / 2 < 32 by omega), d_one_n (show n * (n - 1) / 2 < 31 by omega), d_lef hw (by omega), if_false, p1, xw, xl, d_i0, d_La, d_su]
          refine Or.inl ⟨(d_L (d_sum w (fun w => d_gA n K F lw (d_ux w)) + d_gA n K F lw (d_ux w)), d_L (d_sum w (fun w => d_W n K F (d_ux w)) + d_W n K F (d_ux w)), Int32.ofNat (w + 1), ((d_cB X1 (a + 5) B2, nx) : HM)), ?_, B2, rfl⟩
          unfold d_gA
          cases d_lw n K F (d_ub n (d_ux w)) lw <;> rfl) (by
          rintro st ⟨B', rfl⟩
          unfold f10_odds_L47
          simp only [c_draft (hXq _), obd, orf, x_c L, x_matches L, d_one_e (show n * (n - 1) / 2 < 32 by omega), d_one_n (show n * (n - 1) / 2 < 31 by omega), d_let, if_true]
          exact ⟨_, rfl, B', rfl⟩) FU 0 (Int64.ofNat 0, Int64.ofNat 0, Int32.ofInt 0, ((X1, nx) : HM)) (Nat.zero_le _) (by unfold FU; omega) ⟨B1, by rw [d_cB_e k3.2.1]; rfl⟩
      rw [d_below K F (show n ≤ 5 by omega), d_above K F lw (show n ≤ 5 by omega)] at x1
      -- the model
      let Zb : Nat → Option HO := va_up M (ma + 4) (d_A 26 (d_ov S T0))
      have hZb : d_MO Zb ma hi th po ba en lt lp sd := (va_up_ne _ _ (by omega)).trans hM
      have ZZ := d_MO_Z hZb
      have eZ : d_mS Zb ma S = Zb := d_mS_e ((va_up_ne _ _ (by omega)).trans hS0)
      have al := m_all (nx := nx) Z hS hn kf (Int32.ofNat t)
      rw [eM, ← d_ppairs (fun i j => d_sk K F i + d_sk K F j) h4] at al
      have al' : iter (f11_odds_L33 (M, nx) ma (Int32.ofNat t)) FU (Int64.ofNat 1, Int32.ofInt 0) = some (d_L (d_Al n K F)) := al
      obtain ⟨rk, q1, S6, rfl⟩ := d_it (step := f11_odds_L100 ma (Int32.ofNat t) (d_L (d_Al n K F))) (fun w st => ∃ S' B', st = (d_L (d_sum w (fun w => d_gA n K F lw (d_um n w))), Int32.ofNat w, ((d_mS Zb ma S', nx) : HM)) ∧ d_MS S' n K F B' lw ∧ d_TB n B') (fun r => ∃ S', r = (d_L (d_sum (2 ^ (n * (n - 1) / 2)) (fun w => d_gA n K F lw (d_um n w))), ((d_mS Zb ma S', nx) : HM))) (2 ^ (n * (n - 1) / 2)) (by
          rintro w st hw ⟨S', B', rfl, l1, l2⟩
          obtain ⟨S7, B7, v1, v2, v3, v4⟩ := m_plays (nx := nx) ZZ B' l1 hn l2 (Int32.ofNat w)
          have ml := m_lawful (nx := nx) ZZ v2 hn kf v3 hG.2.2
          rw [d_ub_lw (u := d_um n w) K F lw hn v3 v4] at ml
          have mw := m_weight (nx := nx) (u := d_um n w) ZZ v2 hn kf v4
          rw [← d_ppairs (fun i j => d_wt K F (d_um n w) i j) h4] at mw
          have mw' : f11_weightNow (d_mS Zb ma S7, nx) ma = some (d_L (d_W n K F (d_um n w))) := mw
          have a0 : ∀ x : Nat, d_L x + Int64.ofNat 0 = d_L (x + 0) := fun x => d_La x 0
          unfold f11_odds_L100
          simp only [m_c ZZ, m_matches ZZ l1 hn, obd, d_one_e (show n * (n - 1) / 2 < 32 by omega), d_one_n (show n * (n - 1) / 2 < 31 by omega), d_lef hw (by omega), if_false, v1, ml, mw', d_i0, d_su, a0, d_La]
          refine Or.inl ⟨(d_L (d_sum w (fun w => d_gA n K F lw (d_um n w)) + d_gA n K F lw (d_um n w)), Int32.ofNat (w + 1), ((d_mS Zb ma S7, nx) : HM)), ?_, S7, B7, rfl, v2, v3⟩
          unfold d_gA
          cases d_lw n K F (d_ub n (d_um n w)) lw <;> rfl) (by
          rintro st ⟨S', B', rfl, l1, l2⟩
          unfold f11_odds_L100
          simp only [m_c ZZ, m_matches ZZ l1 hn, obd, d_one_e (show n * (n - 1) / 2 < 32 by omega), d_one_n (show n * (n - 1) / 2 < 31 by omega), d_let, if_true]
          exact ⟨_, rfl, S', rfl⟩) FU 0 (Int64.ofNat 0, Int32.ofInt 0, ((d_mS Zb ma S, nx) : HM)) (Nat.zero_le _) (by unfold FU; omega) ⟨S, B, rfl, hS, hG.1⟩
      -- both
      let A : Nat := d_sum (2 ^ (n * (n - 1) / 2)) (fun w => d_gA n K F lw (d_um n w))
      let C : Nat := d_Al n K F
      let g : Nat := Nat.gcd A C
      have hA : A ≤ C := ab
      have hC : C < 8589934592 := al2
      have g1 : 1 ≤ g := Nat.gcd_pos_of_pos_right A (show 0 < C from al1)
      have g2 : g ≤ C := Nat.gcd_le_right A (show 0 < C from al1)
      have gx : f10_commonDivisor (d_L A) (d_L C) = some (d_L g) := x_common (by omega) (by omega)
      have gm : f11_common 100 (d_L C) (d_L A) = some (d_L g) := by
        rw [m_common (show C < 8589934592 by omega) (show A < 8589934592 by omega)]
        show some (d_L (Nat.gcd C A)) = some (d_L (Nat.gcd A C))
        rw [Nat.gcd_comm]
      have nz : ¬ d_L g = 0 := by
        have : ¬ d_L g = d_L 0 := by rw [d_Le (by omega) (by omega)]; omega
        exact this
      refine ⟨d_L ((if Int32.ofNat t = 0 then A else C) / g), d_cB X1 (a + 5) B2, nx, d_mS Zb ma (d_ov (d_ov S T0) S6), nx, ?_, ?_, d_R_dm hR (Nat.le_refl _) (fun q _ h1 h2 => (d_cB_ne (by omega)).trans (k4 q (by omega) (by omega) (by omega))) ⟨_, _, _, _, _, _, d_LG_cB L k3.2.2⟩ ⟨tt, (d_cB_ne (by omega)).trans ((k4 _ (by omega) (by omega) (by omega)).trans htt)⟩ (d_S_keep hn hS0 hS (d_MS_c hn (fun i hi => (d_ov_i i hi).trans (d_ov_i i hi)) hS))⟩
      · unfold f10_odds
        simp only [if_neg (d_le1t ht).1, if_pos (d_le1t ht).2, c_now hX, c_draft hX, obd, orf, nx0, le4, if_pos h4, d_ocl (d_hcls (σ := (X, nx)) G'.1.1.1), k1, x1]
        rw [show f10_commonDivisor (d_L (d_sum (2 ^ (n * (n - 1) / 2)) (fun w => d_gA n K F lw (d_um n w)))) (d_L (d_Al n K F)) = some (d_L g) from gx]
        show (if Int32.ofNat t = 0 then f10_odds_K125 _ (d_L g) (d_L A) else f10_odds_K125 _ (d_L g) (d_L C)) = _
        rw [x_k125 g1 (by omega) (by omega), x_k125 g1 (by omega) (by omega)]
        by_cases c : Int32.ofNat t = 0
        · rw [if_pos c, if_pos c]
        · rw [if_neg c, if_neg c]
      · unfold f11_odds
        simp only [one, e4, obd, d_i0, if_neg (show ¬ true = false by simp), z0, orf, z1, le4, if_pos h4, al', n_c hM, m_begins hM hS0 hT0]
        rw [show ((va_up M (ma + 4) (d_A 26 (d_ov S T0)), nx) : HM) = (d_mS Zb ma S, nx) from by rw [eZ]]
        simp only [q1, m_c ZZ, m_ends hZb (T := d_ov S T0) (va_up_self _ _ _)]
        rw [show f11_common 100 (d_L (d_Al n K F)) (d_L (d_sum (2 ^ (n * (n - 1) / 2)) (fun w => d_gA n K F lw (d_um n w)))) = some (d_L g) from gm]
        show (if Int32.ofNat t = 0 then onzl (d_L g) (some (d_L A / d_L g, _)) else onzl (d_L g) (some (d_L C / d_L g, _))) = _
        rw [onzl, onzl, if_neg nz, if_neg nz, d_Ld (by omega) (by omega), d_Ld (by omega) (by omega)]
        by_cases c : Int32.ofNat t = 0
        · rw [if_pos c, if_pos c]
        · rw [if_neg c, if_neg c]
    · refine ⟨-1000000003, X, nx, M, nx, ?_, ?_, hR⟩
      · unfold f10_odds
        simp only [if_neg (d_le1t ht).1, if_pos (d_le1t ht).2, c_now hX, obd, orf, nx0, le4, if_neg h4]
      · unfold f11_odds
        simp only [one, e4, obd, d_i0, if_neg (show ¬ true = false by simp), z0, orf, z1, le4, if_neg h4]
