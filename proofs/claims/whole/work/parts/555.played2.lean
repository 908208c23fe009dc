/-! PURE: played, the call -/
theorem x_bytes {a nx d : Nat} {X : Nat → Option HO} {hi : Int32} {RS : Nat → Option Nat} (hX : d_CX X a hi) (s2 : X (a + 12) = some (.inr (.inr (true, 8, RS)))) (hd : d < 8) :
    (RS d = none → f10_bytesOn (X, nx) a (Int32.ofNat d) = some .null) ∧ (∀ r c t m g, RS d = some r → d_RW X r c t m g → f10_bytesOn (X, nx) a (Int32.ofNat d) = some (if t = 0 then .ref r else .null)) := by
  constructor
  · intro h
    unfold f10_bytesOn
    simp only [c_c hX, x_rowOn hX s2 hd, obd, h, va_rf, onl]
  · intro r c t m g h W
    have ht := W.2.2.2
    unfold f10_bytesOn
    simp only [c_c hX, x_rowOn hX s2 hd, obd, h, va_rf, onl, r_0 W]
    rcases (show t = 0 ∨ t = 1 ∨ t = 2 by omega) with rfl | rfl | rfl <;> rfl
theorem sD_played (a ma : Nat) : S_played (d_R a ma) a ma := by
  intro X M nx p1 hR
  have hR0 := hR
  obtain ⟨hi, hX, ha, ⟨th, po, ba, en, lt, lp, sd, hM⟩, ⟨P, K, F, n, lw, B, S, G, hG, hS0, hS⟩, -, ⟨⟨P', K', F', n', lw', B', G'⟩, ⟨tt, htt⟩, -, -, ⟨T0, hT0⟩, -⟩, PS, RS, c, kp, so, sz, el, kk, kf, ⟨s1, s2⟩, ⟨t1, t2, t3, t4, t5, t6⟩, sh, -⟩ := hR0
  have Z := d_MO_Z hM
  have eM := d_mS_e hS0
  have hn : n ≤ 8 := G.1.2.2
  have bad : ∀ (r : Int32) (fx : f10_played (X, nx) a p1 = some (r, (X, nx))) (fm : f11_played (M, nx) ma p1 = some (r, (M, nx))), ∃ (r : Int32) (X' : Nat → Option HO) (n' : Nat) (M' : Nat → Option HO) (n'' : Nat), f10_played (X, nx) a p1 = some (r, (X', n')) ∧ f11_played (M, n') ma p1 = some (r, (M', n'')) ∧ d_R a ma X' M' n'' := fun r fx fm => ⟨_, _, _, _, _, fx, fm, hR⟩
  have z0 : hfld (M, nx) [11] 0 ma = some (.ref (ma + 1)) := n_f hM
  have z1 : hald (M, nx) (ma + 1) (Int32.ofInt 0) = some (Int32.ofNat n) := (d_ald (σ := (M, nx)) (i := 0) hS0 (by omega) (by omega)).trans (by rw [hS.1])
  have nx0 : hfi (X, nx) [2] 2 (a + 2) = some (Int32.ofNat n) := d_hfi (σ := (X, nx)) G.1.1.1 rfl rfl
  have le5 : (Int32.ofNat n ≤ Int32.ofInt 5) = (n ≤ 5) := d_le (j := 5) (show n < 2147483648 by omega) (by omega)
  cases e : d_is 8 p1 with
  | false =>
    refine bad (Int32.ofInt (-1)) ?_ ?_
    · unfold f10_played
      simp only [x_isShelf, e, obd, d_i0, if_true]
    · unfold f11_played
      simp only [m_isShelf, e, obd, d_i0, if_true, k32_bad _ _ _ _ (show ¬ Int32.ofInt (-1) = 0 by decide)]
  | true =>
    obtain ⟨d, hd, rfl⟩ := d_is_n e
    by_cases h5 : n ≤ 5
    · rcases d_SH_RW (sh d hd) with ⟨b1, b2, b3⟩ | ⟨b1, b2, q, k, f, b3, b4, b5, b6, b7⟩ | ⟨b1, b2, r, t, m, g, b3, b4, b5, b6, b7, b8⟩
      · refine bad ((Int8.ofInt (-11)).toInt32) ?_ ?_
        · unfold f10_played
          simp only [x_isShelf, e, obd, d_i0, if_neg (show ¬ true = false by simp), c_now hX, orf, nx0, le5, if_pos h5, c_c hX, (x_bytes (nx := nx) hX s2 hd).1 b3, onl, x_why hX s1 s2 hd, b2, b3]
          rfl
        · unfold f11_played
          simp only [m_isShelf, e, obd, d_i0, if_neg (show ¬ true = false by simp), z0, orf, z1, le5, if_pos h5, n_c hM, m_wrongRow hM t1 t2 hd, b1, if_true, k32_bad _ _ _ _ (show ¬ (Int8.ofInt (-11)).toInt32 = 0 by decide)]
      · refine bad ((Int8.ofInt (-12)).toInt32) ?_ ?_
        · unfold f10_played
          simp only [x_isShelf, e, obd, d_i0, if_neg (show ¬ true = false by simp), c_now hX, orf, nx0, le5, if_pos h5, c_c hX, (x_bytes (nx := nx) hX s2 hd).1 b2, onl, x_why hX s1 s2 hd, b2, b3]
          rfl
        · unfold f11_played
          simp only [m_isShelf, e, obd, d_i0, if_neg (show ¬ true = false by simp), z0, orf, z1, le5, if_pos h5, n_c hM, m_wrongRow hM t1 t2 hd, b1]
          rw [if_neg (by decide), if_neg (by decide), k32_bad _ _ _ _ (by decide)]
      · by_cases ht0 : t = 0
        · subst ht0
          have hm100 := b5.2.2.1
          have wr : ∀ k, f11_wrongRow (M, k) ma (Int32.ofNat d) (Int32.ofInt 0) = some (Int32.ofInt 0) := fun k => by
            rw [m_wrongRow hM t1 t2 hd, b1, b6, if_neg (by decide), if_pos (by decide), if_neg (by decide), if_pos (by decide)]
          have z2 : ∀ k, hald (M, k) (ma + 7) (Int32.ofNat d) = some (Int32.ofNat m) := fun k => by rw [d_ild _ t3 hd (by omega), b7]
          by_cases hm2 : m % 2 = 0
          · obtain ⟨h, hmh⟩ : ∃ h, m = 2 * h := ⟨m / 2, by omega⟩
            -- the pairs
            obtain ⟨rx, x1, x2⟩ := x_pairs (t0 := tt) hX G ha b4 b5 hmh
            obtain ⟨rm, y1, y2⟩ := m_pairs (nx := nx) (Z := M) (ma := ma) (S := S) (by rw [eM]; exact hM) (by rw [eM]; exact t3) (by rw [eM]; exact t4) hS hn hd hmh hm100 b7 b8
            rw [eM] at y1
            have fm0 : f11_played (M, nx) ma (Int32.ofNat d) = f11_played_K51 (M, nx) ma (Int32.ofNat d) (Int32.ofInt 0) := by
              unfold f11_played
              simp only [m_isShelf, e, obd, d_i0, if_neg (show ¬ true = false by simp), z0, orf, z1, le5, if_pos h5, n_c hM, wr]
              unfold f11_played_K32
              simp only [if_pos (show Int32.ofInt 0 = 0 from rfl), n_6 hM, obd, orf, z2, onz, if_neg (show ¬ Int32.ofInt 2 = 0 by decide), d_mod2 hm100, if_pos hm2]
            have fx0 : f10_played (X, nx) a (Int32.ofNat d) = osm rx (fun o => some o) (fun t57 => obd (hfld t57 [10] 2 a) (fun v35 => obd (hfld t57 [10] 1 a) (fun v36 => orf v36 (fun b37 => orf v35 (fun b38 => ocl t57 b38 2 (obd (f2_become t57 b38 b37) (fun s40 => ocl s40 a 10 (obd (f10_lawfulWaysAsTold s40 a) (fun e41 => match e41 with | (v43, s42) => some (v43, s42)))))))))) := by
              unfold f10_played
              simp only [x_isShelf, e, obd, d_i0, if_neg (show ¬ true = false by simp), c_now hX, orf, nx0, le5, if_pos h5, c_c hX, (x_bytes (nx := nx) hX s2 hd).2 r _ 0 m g b3 b5, if_true, onl, r_c b5, r_size b5, onz, if_neg (show ¬ Int32.ofInt 2 = 0 by decide), d_mod2 hm100, if_pos hm2, x_clear (nx := nx) hX htt, x1]
            rcases x2 with ⟨t, rfl, ti, tw⟩ | ⟨t, rfl, nt⟩
            · rcases y2 with ⟨rfl, -⟩ | ⟨-, nt⟩
              · -- all is as told
                obtain ⟨m10, m1024⟩ := d_2m h5
                let X1 : Nat → Option HO := va_up X (a + 13) (d_A 8 t)
                have hX1 : d_CX X1 a hi := (va_up_ne _ _ (by omega)).trans hX
                have fr : ∀ {ad P K F n lw B}, (ad = a + 2 ∨ ad = a + 5) → d_LG a nx X ad P K F n lw B → d_LG a nx X1 ad P K F n lw B := fun h q => d_LG_fr q (Nat.le_refl _) (fun q hq => va_up_ne _ _ (by have := (d_ok_lt ha hq).2.1; omega)) (va_up_ne _ _ (by omega)) (va_up_ne _ _ (by omega)) (va_up_ne _ _ (by omega))
                have G1 := fr (Or.inl rfl) G
                have G1' := fr (Or.inr rfl) G'
                obtain ⟨X2, B1, k1, k2, k3, k4⟩ := x_become (nx := nx) (ad := a + 5) (bd := a + 2) (by omega) (fun k hk => by rw [Nat.add_assoc]; exact d_nok (by omega) (by omega)) G1' G1
                have hX2 : d_CX X2 a hi := (k4 a (by omega) (by omega) (by omega)).trans hX1
                obtain ⟨X5, w1, w2, w3⟩ := x_ways (nx := nx) (t := t) hX2 k3 h5 ((k4 _ (by omega) (by omega) (by omega)).trans (va_up_self _ _ _))
                rw [d_perm h5 (d_gt n K F lw t) (fun u u' h => by unfold d_gt; rw [d_ub_lc _ _ _ h, d_tok_c t (d_ub_c h)])] at w1
                -- the model
                let Zb : Nat → Option HO := va_up M (ma + 4) (d_A 26 (d_ov S T0))
                have hZb : d_MO Zb ma hi th po ba en lt lp sd := (va_up_ne _ _ (by omega)).trans hM
                have ZZ := d_MO_Z hZb
                have eZ : d_mS Zb ma S = Zb := d_mS_e ((va_up_ne _ _ (by omega)).trans hS0)
                have kf : d_KF n K F := d_LX_KF G.1
                obtain ⟨rk, q1, S6, rfl⟩ := d_it (step := f11_played_L116 ma (Int32.ofNat d)) (fun w st => ∃ S' B', st = (Int32.ofNat (d_sum w (fun w => d_gt n K F lw t (d_um n w))), Int32.ofNat w, ((d_mS Zb ma S', nx) : HM)) ∧ d_MS S' n K F B' lw ∧ d_TB n B') (fun r => ∃ S', r = (Int32.ofNat (d_sum (2 ^ (n * (n - 1) / 2)) (fun w => d_gt n K F lw t (d_um n w))), ((d_mS Zb ma S', nx) : HM))) (2 ^ (n * (n - 1) / 2)) (by
                    rintro w st hw ⟨S', B', rfl, l1, l2⟩
                    obtain ⟨S7, B7, v1, v2, v3, v4⟩ := m_plays (nx := nx) ZZ B' l1 hn l2 (Int32.ofNat w)
                    have ml := m_lawful (nx := nx) ZZ v2 hn kf v3 hG.2.2
                    rw [d_ub_lw (u := d_um n w) K F lw hn v3 v4] at ml
                    have mt := m_asPlayed (nx := nx) (Z := Zb) (ma := ma) (S := S7) (d_mS_0.trans hZb) ((d_mS_ne (by omega)).trans ((va_up_ne _ _ (by omega)).trans t3)) ((d_mS_ne (by omega)).trans ((va_up_ne _ _ (by omega)).trans t4)) v2 hn hd hmh hm100 b7 b8 ti tw
                    rw [d_tok_c t (d_ub_e (u := d_um n w) hn v3 v4)] at mt
                    unfold f11_played_L116
                    simp only [m_c ZZ, m_matches ZZ l1 hn, obd, d_one_e (show n * (n - 1) / 2 < 32 by omega), d_one_n (show n * (n - 1) / 2 < 31 by omega), d_lef hw (by omega), if_false, v1, ml, mt, d_i0, d_su, d_su0]
                    refine Or.inl ⟨(Int32.ofNat (d_sum w (fun w => d_gt n K F lw t (d_um n w)) + d_gt n K F lw t (d_um n w)), Int32.ofNat (w + 1), ((d_mS Zb ma S7, nx) : HM)), ?_, S7, B7, rfl, v2, v3⟩
                    unfold d_gt
                    cases d_tok n t (d_ub n (d_um n w)) <;> cases d_lw n K F (d_ub n (d_um n w)) lw <;> rfl) (by
                    rintro st ⟨S', B', rfl, l1, l2⟩
                    unfold f11_played_L116
                    simp only [m_c ZZ, m_matches ZZ l1 hn, obd, d_one_e (show n * (n - 1) / 2 < 32 by omega), d_one_n (show n * (n - 1) / 2 < 31 by omega), d_let, if_true]
                    exact ⟨_, rfl, S', rfl⟩) FU 0 (Int32.ofInt 0, Int32.ofInt 0, ((d_mS Zb ma S, nx) : HM)) (Nat.zero_le _) (by unfold FU; omega) ⟨S, B, rfl, hS, hG.1⟩
                refine ⟨Int32.ofNat (d_sum (2 ^ (n * (n - 1) / 2)) (fun w => d_gt n K F lw t (d_um n w))), X5, nx, d_mS Zb ma (d_ov (d_ov S T0) S6), nx, ?_, ?_, d_R_dm hR (Nat.le_refl _) (fun q _ h1 h2 => (w3 q h1).trans ((k4 q (by omega) (by omega) (by omega)).trans (va_up_ne _ _ h2))) w2 ⟨t, (w3 _ (by omega)).trans ((k4 _ (by omega) (by omega) (by omega)).trans (va_up_self _ _ _))⟩ (d_S_keep hn hS0 hS (d_MS_c hn (fun i hi => (d_ov_i i hi).trans (d_ov_i i hi)) hS))⟩
                · rw [fx0]
                  simp only [osm]
                  rw [show ((va_up X (a + 13) (d_A 8 t), nx) : HM) = (X1, nx) from rfl]
                  simp only [c_draft hX1, c_now hX1, obd, orf, d_ocl (d_hcls (σ := (X1, nx)) G1'.1.1.1), k1, c_c hX2, w1]
                · rw [fm0]
                  unfold f11_played_K51
                  rw [y1]
                  simp only [obd, if_pos (show Int32.ofInt 0 = 0 from rfl), n_c hM, m_begins hM hS0 hT0]
                  rw [show ((va_up M (ma + 4) (d_A 26 (d_ov S T0)), nx) : HM) = (d_mS Zb ma S, nx) from by rw [eZ]]
                  simp only [q1, m_c ZZ, m_ends hZb (T := d_ov S T0) (va_up_self _ _ _)]
              · exact absurd tw nt
            · rcases y2 with ⟨-, tw⟩ | ⟨rfl, -⟩
              · exact absurd tw nt
              · refine ⟨(Int8.ofInt (-13)).toInt32, va_up X (a + 13) (d_A 8 t), nx, M, nx, ?_, ?_, d_R_t hR t⟩
                · rw [fx0]
                  rfl
                · rw [fm0]
                  unfold f11_played_K51
                  rw [y1]
                  simp only [obd, if_neg (show ¬ (Int8.ofInt (-13)).toInt32 = 0 by decide)]
          · refine bad ((Int8.ofInt (-13)).toInt32) ?_ ?_
            · unfold f10_played
              simp only [x_isShelf, e, obd, d_i0, if_neg (show ¬ true = false by simp), c_now hX, orf, nx0, le5, if_pos h5, c_c hX, (x_bytes (nx := nx) hX s2 hd).2 r _ 0 m g b3 b5, if_true, onl, r_c b5, r_size b5, onz, if_neg (show ¬ Int32.ofInt 2 = 0 by decide), d_mod2 hm100, if_neg hm2]
            · unfold f11_played
              simp only [m_isShelf, e, obd, d_i0, if_neg (show ¬ true = false by simp), z0, orf, z1, le5, if_pos h5, n_c hM, wr]
              unfold f11_played_K32
              simp only [if_pos (show Int32.ofInt 0 = 0 from rfl), n_6 hM, obd, orf, z2, onz, if_neg (show ¬ Int32.ofInt 2 = 0 by decide), d_mod2 hm100, if_neg hm2]
              rw [k51_bad _ _ _ _ (by decide)]
        · refine bad ((Int8.ofInt (-12)).toInt32) ?_ ?_
          · unfold f10_played
            simp only [x_isShelf, e, obd, d_i0, if_neg (show ¬ true = false by simp), c_now hX, orf, nx0, le5, if_pos h5, c_c hX, (x_bytes (nx := nx) hX s2 hd).2 r _ t m g b3 b5, if_neg ht0, onl, x_why hX s1 s2 hd, b2, b3]
            rfl
          · have ht3 := b5.2.2.2
            unfold f11_played
            simp only [m_isShelf, e, obd, d_i0, if_neg (show ¬ true = false by simp), z0, orf, z1, le5, if_pos h5, n_c hM, m_wrongRow hM t1 t2 hd, b1, b6]
            rw [if_neg (by decide), if_pos (by decide), if_neg (by decide), if_neg (show ¬ Int32.ofNat t = Int32.ofInt 0 from by rw [show Int32.ofInt 0 = Int32.ofNat 0 from rfl, d_eq (by omega) (by omega)]; exact ht0), k32_bad _ _ _ _ (by decide)]
    · refine bad ((Int8.ofInt (-3)).toInt32) ?_ ?_
      · unfold f10_played
        simp only [x_isShelf, e, obd, d_i0, if_neg (show ¬ true = false by simp), c_now hX, orf, nx0, le5, if_neg h5]
      · unfold f11_played
        simp only [m_isShelf, e, obd, d_i0, if_neg (show ¬ true = false by simp), z0, orf, z1, le5, if_neg h5, k32_bad _ _ _ _ (show ¬ (Int8.ofInt (-3)).toInt32 = 0 by decide)]
