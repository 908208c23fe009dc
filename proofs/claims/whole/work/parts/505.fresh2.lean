/-! PURE: fresh, the call -/
theorem d_le1 {p : Int32} (h : d_is 2 p = false) (h1 : ¬ p < 0) : ¬ p ≤ Int32.ofInt 1 := by
  unfold d_is at h
  rw [decide_eq_false_iff_not] at h
  rw [Int32.lt_iff_toInt_lt, d_z0] at h1
  rw [Int32.le_iff_toInt_le, show (Int32.ofInt 1).toInt = 1 by decide]
  omega
theorem d_le1t {t : Nat} (h : t < 2) : ¬ Int32.ofNat t < 0 ∧ Int32.ofNat t ≤ Int32.ofInt 1 := (show ∀ t, t < 2 → ¬ Int32.ofNat t < 0 ∧ Int32.ofNat t ≤ Int32.ofInt 1 by decide) t h
theorem d_fu_c {n : Nat} {B B' : Nat → Int32} {w : Nat} {p q : Nat} (h : q < n → d_b (B p) q = d_b (B' p) q) : (if q < n then d_b (B p) q else !d_b (Int32.ofNat w) p) = d_fu n B' w p q := by
  unfold d_fu
  by_cases c : q < n
  · rw [if_pos c, if_pos c, h c]
  · rw [if_neg c, if_neg c]
theorem sD_fresh (a ma : Nat) : S_fresh (d_R a ma) a ma := by
  intro X M nx p1 p2 p3 hR
  have hR0 := hR
  obtain ⟨hi, hX, ha, ⟨th, po, ba, en, lt, lp, sd, hM⟩, ⟨P, K, F, n, lw, B, S, G, hG, hS0, hS⟩, -, ⟨⟨P', K', F', n', lw', B', G'⟩, ⟨tt, htt⟩, -, -, ⟨T0, hT0⟩, -⟩, -⟩ := hR0
  have bad : ∀ (fx : f10_fresh (X, nx) a p1 p2 p3 = some (Int32.ofInt (-1), (X, nx))) (fm : f11_fresh (M, nx) ma p1 p2 p3 = some (Int32.ofInt (-1), (M, nx))), ∃ (r : Int32) (X' : Nat → Option HO) (n' : Nat) (M' : Nat → Option HO) (n'' : Nat), f10_fresh (X, nx) a p1 p2 p3 = some (r, (X', n')) ∧ f11_fresh (M, n') ma p1 p2 p3 = some (r, (M', n'')) ∧ d_R a ma X' M' n'' := fun fx fm => ⟨_, _, _, _, _, fx, fm, hR⟩
  have one : ∀ p : Int32, f11_isIn p.toInt64 (Int64.ofNat 0) (Int64.ofNat 1) = some (d_i (d_is 2 p)) := fun p => m_in p _ 2 (by decide)
  have sev : ∀ p : Int32, f11_isIn p.toInt64 (Int64.ofNat 0) 7 = some (d_i (d_is 8 p)) := fun p => m_in p _ 8 (by decide)
  have nin : ∀ p : Int32, f11_isIn p.toInt64 (Int64.ofNat 0) 9 = some (d_i (d_is 10 p)) := fun p => m_in p _ 10 (by decide)
  cases e3 : d_is 8 p1 && d_is 10 p2 with
  | false =>
    refine bad ?_ ?_
    · unfold f10_fresh
      simp only [x_isPerson, e3, obd, d_i0, if_true]
    · unfold f11_fresh
      simp only [obd, d_i0, sev, nin]
      cases g1 : d_is 8 p1 with
      | false => rw [if_pos rfl]
      | true =>
        rw [if_neg (by simp)]
        rw [g1] at e3
        simp only [Bool.true_and] at e3
        rw [e3, if_pos rfl]
  | true =>
    obtain ⟨g1, g2⟩ := Bool.and_eq_true _ _ ▸ e3
    obtain ⟨k, hk, rfl⟩ := d_is_n g1
    obtain ⟨f, hf, rfl⟩ := d_is_n g2
    cases e4 : d_is 2 p3 with
    | false =>
      refine bad ?_ ?_
      · unfold f10_fresh
        simp only [x_isPerson, e3, obd, d_i0, if_neg (show ¬ true = false by simp)]
        by_cases h1 : p3 < 0
        · rw [if_pos h1]
        · rw [if_neg h1, if_neg (d_le1 e4 h1)]
      · unfold f11_fresh
        simp only [obd, d_i0, sev, nin, one, g1, g2, e4, if_neg (show ¬ true = false by simp), if_true]
    | true =>
      obtain ⟨t, ht, rfl⟩ := d_is_n e4
      have h7 : n ≤ 7 := hG.2.1
      have p2n : (2 : Nat) ^ n ≤ 128 := (show ∀ n, n < 8 → (2 : Nat) ^ n ≤ 128 by decide) n (by omega)
      -- the class
      obtain ⟨X1, B1, k1, k2, k3, k4⟩ := x_become (nx := nx) (ad := a + 5) (bd := a + 2) (by omega) (fun k hk => by rw [Nat.add_assoc]; exact d_nok (by omega) (by omega)) G' G
      have hX1 : d_CX X1 a hi := (k4 a (by omega) (by omega) (by omega)).trans hX
      let XP : Nat → Option HO := va_up X1 nx (some (.inl (d_kc k, [.int (Int32.ofNat f)])))
      have xp : ∀ q, q < nx → XP q = X1 q := fun q h => va_up_ne _ _ (by omega)
      have hXP : d_CX XP a hi := (xp a (by omega)).trans hX1
      have k5 : d_LG a (nx + 1) XP (a + 5) P K F n lw B1 := d_LG_fr k3 (Nat.le_succ _) (fun q hq => xp q (d_ok_lt ha hq).1) (xp _ (by omega)) (xp _ (by omega)) (xp _ (by omega))
      have T1 : d_TB n B1 := d_TB_c (fun i hi => (k2 i (by omega)).symm) hG.1
      have hpe : d_PE XP nx k f := ⟨va_up_self _ _ _, hk, hf⟩
      have hok : d_ok a (nx + 1) nx := Or.inr ⟨ha, by omega⟩
      obtain ⟨X2, s1, s2, s3⟩ := x_seat (nx := nx + 1) k5 h7 hok hpe (fun k hk => by rw [Nat.add_assoc]; exact d_nok (by omega) (by omega)) (nx + 1)
      have hX2 : d_CX X2 a hi := (s3 a (by omega) (by omega) (by omega)).trans hXP
      have T2 : d_TB (n + 1) (d_sB n B1) := d_TB_seat h7 T1
      have kf : d_KF (n + 1) (va_up K n k) (va_up F n f) := d_LX_KF s2.1
      let ff : Nat → Bool := d_ff n (va_up K n k) (va_up F n f) B lw
      have now : hfi (X2, nx + 1) [2] 2 (a + 2) = some (Int32.ofNat n) := d_hfi (σ := (X2, nx + 1)) ((s3 _ (by omega) (by omega) (by omega)).trans ((xp _ (by omega)).trans ((k4 _ (by omega) (by omega) (by omega)).trans G.1.1.1))) rfl rfl
      obtain ⟨rx, x1, X3, rfl, x2, x3⟩ := d_it (step := f10_fresh_L61 a (Int32.ofNat t) (Int32.ofNat n)) (fun w st => ∃ X' Bc, st = ((d_frs ff n w).1, (d_frs ff n w).2, Int32.ofNat w, ((X', nx + 1) : HM)) ∧ d_LG a (nx + 1) X' (a + 5) (va_up P n nx) (va_up K n k) (va_up F n f) (n + 1) lw Bc ∧ d_TB (n + 1) Bc ∧ (∀ p q, p < q → q < n → d_b (Bc p) q = d_b (B p) q) ∧ ∀ q, ¬ (a + 5 ≤ q ∧ q ≤ a + 7) → X' q = X2 q) (fun r => ∃ X', r = ((d_frs ff n (2 ^ n)).1, (d_frs ff n (2 ^ n)).2, ((X', nx + 1) : HM)) ∧ (∃ P K F n lw B, d_LG a (nx + 1) X' (a + 5) P K F n lw B) ∧ ∀ q, ¬ (a + 5 ≤ q ∧ q ≤ a + 7) → X' q = X2 q) (2 ^ n) (by
          rintro w st hw ⟨X', Bc, rfl, l1, l2, l3, l4⟩
          have hX' : ∀ B, d_CX (d_cB X' (a + 5) B) a hi := fun B => (d_cB_ne (by omega)).trans ((l4 a (by omega)).trans hX2)
          obtain ⟨B2, c1, c2, c3⟩ := x_newc (nx := nx + 1) l1.1 Bc l2 (Int32.ofNat w)
          have ex := d_cB_e l1.2.1
          have hXe := hX' Bc
          rw [ex] at hXe c1
          have xl := x_lawful (nx := nx + 1) l1.1 c2
          rw [d_ub_lw (u := d_fu n B w) (va_up K n k) (va_up F n f) lw (by omega) c2 (fun p q hpq hq => (c3 p q hpq hq).trans (d_fu_c (fun c => l3 p q hpq c)))] at xl
          have xl' : f2_isLawful (d_cB X' (a + 5) B2, nx + 1) (a + 5) = some (d_i (ff w)) := xl
          unfold f10_fresh_L61
          simp only [d_one_e (show n < 32 by omega), d_one_n (show n < 31 by omega), d_lef hw (by omega), if_false, c_draft hXe, obd, orf, d_ocl (d_hcls (σ := (X', nx + 1)) l1.1.1.1), c1, c_draft (hX' B2), x_c l1.1, xl', d_i0, d_pcx (d_lo_0 (show n < 8 by omega) hw).2, d_su]
          refine Or.inl ⟨((d_frs ff n (w + 1)).1, (d_frs ff n (w + 1)).2, Int32.ofNat (w + 1), ((d_cB X' (a + 5) B2, nx + 1) : HM)), ?_, _, B2, rfl, d_LG_cB l1.1 l1.2.2, c2, fun p q hpq hq => ?_, fun q hq => (d_cB_ne (by omega)).trans (l4 q hq)⟩
          · cases e : ff w with
            | false => rw [if_pos rfl, d_frs_f e]
            | true =>
              rw [if_neg (by simp), d_frs_t e]
              show (if (d_frs ff n w).2 = (Int8.ofInt (-4)).toInt32 then some (Sum.inl ((d_frs ff n w).1 + Int32.ofInt 1, d_lo n w, Int32.ofNat (w + 1), ((d_cB X' (a + 5) B2, nx + 1) : HM))) else if (d_frs ff n w).2 ≤ d_lo n w then some (Sum.inl ((d_frs ff n w).1 + Int32.ofInt 1, (d_frs ff n w).2, Int32.ofNat (w + 1), ((d_cB X' (a + 5) B2, nx + 1) : HM))) else some (Sum.inl ((d_frs ff n w).1 + Int32.ofInt 1, d_lo n w, Int32.ofNat (w + 1), ((d_cB X' (a + 5) B2, nx + 1) : HM)))) = _
              by_cases q1 : (d_frs ff n w).2 = (Int8.ofInt (-4)).toInt32
              · simp only [if_pos q1]
              · simp only [if_neg q1]
                by_cases q2 : (d_frs ff n w).2 ≤ d_lo n w
                · simp only [if_pos q2]
                · simp only [if_neg q2]
          · rw [c3 p q hpq (by omega), if_pos hq]; exact l3 p q hpq hq) (by
          rintro st ⟨X', Bc, rfl, l1, l2, l3, l4⟩
          unfold f10_fresh_L61
          simp only [d_one_e (show n < 32 by omega), d_one_n (show n < 31 by omega), d_let, if_true]
          exact ⟨_, rfl, X', rfl, ⟨_, _, _, _, _, _, l1⟩, l4⟩) FU 0 (Int32.ofInt 0, (Int8.ofInt (-4)).toInt32, Int32.ofInt 0, ((X2, nx + 1) : HM)) (Nat.zero_le _) (by unfold FU; omega) ⟨X2, _, rfl, s2, T2, fun p q hpq hq => by rw [d_sB_b B1 h7 hpq (by omega), k2 p (by omega), decide_eq_false (by omega)]; simp, fun q _ => rfl⟩
      -- the model
      let Zb : Nat → Option HO := va_up M (ma + 4) (d_A 26 (d_ov S T0))
      have hZb : d_MO Zb ma hi th po ba en lt lp sd := (va_up_ne _ _ (by omega)).trans hM
      have ZZ := d_MO_Z hZb
      have eZ : d_mS Zb ma S = Zb := d_mS_e ((va_up_ne _ _ (by omega)).trans hS0)
      obtain ⟨rm, y1, S', rfl, y2⟩ := d_it (step := f11_fresh_L58 ma (Int32.ofNat k) (Int32.ofNat f) (Int32.ofNat t) (Int32.ofNat n)) (fun w st => ∃ S', st = ((d_frs ff n w).1, (d_frs ff n w).2, Int32.ofNat w, ((d_mS Zb ma S', nx + 1) : HM)) ∧ d_MS S' n K F B lw) (fun r => ∃ S', r = ((d_frs ff n (2 ^ n)).1, (d_frs ff n (2 ^ n)).2, ((d_mS Zb ma S', nx + 1) : HM)) ∧ d_MS S' n K F B lw) (2 ^ n) (by
          rintro w st hw ⟨S', rfl, hS'⟩
          obtain ⟨S2, u1, u2⟩ := m_joins (nx := nx + 1) (k := k) (f := f) ZZ hS' h7
          obtain ⟨S3, B3, u3, u4, u5, u6⟩ := m_newc (nx := nx + 1) ZZ _ u2 h7 (d_TB_seat h7 hG.1) (fun p hp => by rw [d_sB_b B h7 hp (by omega), decide_eq_true rfl]; simp) (Int32.ofNat w) (Int32.ofNat k) (Int32.ofNat f) (Int32.ofNat t) (d_frs ff n w).1 (d_frs ff n w).2
          have ml := m_lawful (nx := nx + 1) ZZ u4 (show n + 1 ≤ 8 by omega) kf u5 hG.2.2
          rw [d_ub_lw (u := d_fu n B w) (va_up K n k) (va_up F n f) lw (by omega) u5 (fun p q hpq hq => (u6 p q hpq hq).trans (d_fu_c (fun c => by rw [d_sB_b B h7 hpq (by omega), decide_eq_false (by omega)]; simp)))] at ml
          have ml' : f11_isLawful (d_mS Zb ma S3, nx + 1) ma = some (d_i (ff w)) := ml
          unfold f11_fresh_L58
          simp only [d_one_e (show n < 32 by omega), d_one_n (show n < 31 by omega), d_lef hw (by omega), if_false, m_c ZZ, u1, obd, u3, ml', m_ends hZb (T := d_ov S T0) (va_up_self _ _ _), d_i0, d_pcm (d_lo_0 (show n < 8 by omega) hw).2, d_su]
          refine Or.inl ⟨((d_frs ff n (w + 1)).1, (d_frs ff n (w + 1)).2, Int32.ofNat (w + 1), ((d_mS Zb ma (d_ov (d_ov S T0) S3), nx + 1) : HM)), ?_, _, rfl, d_MS_c (by omega) (fun i hi => (d_ov_i i hi).trans (d_ov_i i hi)) hS⟩
          cases e : ff w with
          | false => rw [if_pos rfl, d_frs_f e]
          | true =>
            rw [if_neg (by simp), d_frs_t e]
            simp only [d_frs_ok ff (show n < 8 by omega) w (by omega)]
            show (if (d_frs ff n w).2 = (Int8.ofInt (-4)).toInt32 then some (Sum.inl ((d_frs ff n w).1 + Int32.ofInt 1, d_lo n w, Int32.ofNat (w + 1), ((d_mS Zb ma (d_ov (d_ov S T0) S3), nx + 1) : HM))) else if (d_frs ff n w).2 ≤ d_lo n w then some (Sum.inl ((d_frs ff n w).1 + Int32.ofInt 1, (d_frs ff n w).2, Int32.ofNat (w + 1), ((d_mS Zb ma (d_ov (d_ov S T0) S3), nx + 1) : HM))) else some (Sum.inl ((d_frs ff n w).1 + Int32.ofInt 1, d_lo n w, Int32.ofNat (w + 1), ((d_mS Zb ma (d_ov (d_ov S T0) S3), nx + 1) : HM)))) = _
            by_cases q1 : (d_frs ff n w).2 = (Int8.ofInt (-4)).toInt32
            · simp only [if_pos q1]
            · simp only [if_neg q1]
              by_cases q2 : (d_frs ff n w).2 ≤ d_lo n w
              · simp only [if_pos q2]
              · simp only [if_neg q2]) (by
          rintro st ⟨S', rfl, hS'⟩
          unfold f11_fresh_L58
          simp only [d_one_e (show n < 32 by omega), d_one_n (show n < 31 by omega), d_let, if_true]
          exact ⟨_, rfl, S', rfl, hS'⟩) FU 0 (Int32.ofInt 0, (Int8.ofInt (-4)).toInt32, Int32.ofInt 0, ((Zb, nx + 1) : HM)) (Nat.zero_le _) (by unfold FU; omega) ⟨S, by rw [eZ]; rfl, hS⟩
      refine ⟨if Int32.ofNat t = 0 then (d_frs ff n (2 ^ n)).1 else (d_frs ff n (2 ^ n)).2, X3, nx + 1, d_mS Zb ma S', nx + 1, ?_, ?_, d_R_dm hR (Nat.le_succ _) (fun q h0 h1 _ => (x3 q h1).trans ((s3 q (by omega) (by omega) (by omega)).trans ((xp q h0).trans (k4 q (by omega) (by omega) (by omega))))) x2 ⟨tt, (x3 _ (by omega)).trans ((s3 _ (by omega) (by omega) (by omega)).trans ((xp _ (by omega)).trans ((k4 _ (by omega) (by omega) (by omega)).trans htt)))⟩ (d_S_keep (by omega) hS0 hS y2)⟩
      · unfold f10_fresh
        simp only [x_isPerson, e3, obd, d_i0, if_neg (show ¬ true = false by simp), if_neg (d_le1t ht).1, if_pos (d_le1t ht).2, c_now hX, c_draft hX, orf, d_ocl (d_hcls (σ := (X, nx)) G'.1.1.1), k1, c_draft hX1, x_new X1 nx hk]
        have oc : ∀ {α : Type} (x : Option α), ocl (XP, nx + 1) (a + 5) 2 x = x := fun x => d_ocl (d_hcls (σ := (XP, nx + 1)) k5.1.1.1) x
        rw [show ((va_up X1 nx (some (.inl (d_kc k, [.int (Int32.ofNat f)]))), nx + 1) : HM) = (XP, nx + 1) from rfl]
        simp only [oc, s1, c_now hX2, now, x1]
        split <;> rfl
      · unfold f11_fresh
        have z0 : hfld (M, nx + 1) [11] 0 ma = some (.ref (ma + 1)) := n_f hM
        have z1 : hald (M, nx + 1) (ma + 1) (Int32.ofInt 0) = some (Int32.ofNat n) := (d_ald (σ := (M, nx + 1)) (i := 0) hS0 (by omega) (by omega)).trans (by rw [hS.1])
        simp only [obd, d_i0, sev, nin, one, g1, g2, e4, if_neg (show ¬ true = false by simp), z0, orf, z1, n_c hM, m_begins hM hS0 hT0]
        rw [show ((va_up M (ma + 4) (d_A 26 (d_ov S T0)), nx + 1) : HM) = (Zb, nx + 1) from rfl, y1]
        simp only
        split <;> rfl
