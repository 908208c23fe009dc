/-! PURE: league, the call -/
theorem d_up_e {α : Type} {f : Nat → α} {q : Nat} {x : α} (h : f q = x) : va_up f q x = f := by
  funext j
  unfold va_up
  split
  · rename_i e; rw [e, h]
  · rfl
theorem d_wh_c {w w' : Nat → Int32} {m : Nat} (h : ∀ i, d_st w i = d_st w' i) : ∀ k i, d_wh w m k i → d_wh w' m k i
  | 0, _, q => q
  | k + 1, i, q => by
    obtain ⟨q1, j, q2, q3⟩ := q
    exact ⟨q1, j, (h i) ▸ q2, d_wh_c h k j q3⟩
theorem d_R_new {a ma nx nx' : Nat} {X X' M M' : Nat → Option HO} (h : d_R a ma X M nx) (hn : nx ≤ nx') (hX : ∀ q, q < nx → ¬ (a + 2 ≤ q ∧ q ≤ a + 7) → X' q = X q) (hM : ∀ k, k = 2 ∨ (5 ≤ k ∧ k ≤ 10) → M' (ma + k) = M (ma + k)) (hO : ∀ hi th po ba en lt lp sd, d_MO M ma hi th po ba en lt lp sd → ∃ th po ba en lt lp sd, d_MO M' ma hi th po ba en lt lp sd) (hN : d_RN a ma nx' X' M') (hD : ∃ P K F n lw B, d_LG a nx' X' (a + 5) P K F n lw B) (h3 : ∃ D, M' (ma + 3) = d_A 26 D) (h4 : ∃ T, M' (ma + 4) = d_A 26 T) (h11 : ∃ u, M' (ma + 11) = d_A 2 u) : d_R a ma X' M' nx' := by
  obtain ⟨hi, b1, b2, ⟨th, po, ba, en, lt, lp, sd, b3⟩, b4, b5, ⟨-, ⟨t, c1⟩, c2, -, -, -⟩, b7⟩ := h
  have ok : ∀ q, d_ok a nx q → X' q = X q := fun q hq => hX q (d_ok_lt b2 hq).1 (by have := (d_ok_lt b2 hq).2.1; omega)
  exact ⟨hi, (hX a (by omega) (by omega)).trans b1, by omega, hO _ _ _ _ _ _ _ _ b3, hN, d_RI_fr b5 hn ok (hX _ (by omega) (by omega)) (hX _ (by omega) (by omega)) (hX _ (by omega) (by omega)) (hM _ (by omega)), ⟨hD, ⟨t, (hX _ (by omega) (by omega)).trans c1⟩, ⟨(ok _ (Or.inl rfl)).trans c2.1, c2.2⟩, h3, h4, h11⟩, d_RS_fr b7 hn ok (hX _ (by omega) (by omega)) (hX _ (by omega) (by omega)) (fun k h1 h2 => hM _ (by omega))⟩
theorem sD_league (a ma : Nat) : S_league (d_R a ma) a ma := by
  intro X M nx p1 hR
  have hR0 := hR
  obtain ⟨hi, hX, ha, ⟨th, po, ba, en, lt, lp, sd, hM⟩, ⟨P, K, F, n, lw, B, S, G, hG, hS0, hS⟩, -, ⟨⟨P', K', F', n', lw', B', G'⟩, ⟨tt, htt⟩, -, ⟨D0, hD0⟩, ⟨T0, hT0⟩, ⟨u0, hu0⟩⟩, PS, RS, c, kp, so, sz, el, kk, kf, ⟨s1, s2⟩, ⟨t1, t2, t3, t4, t5, t6⟩, sh, -⟩ := hR0
  have hn : n ≤ 8 := G.1.2.2
  have bad : ∀ (r : Int32) (fx : f10_league (X, nx) a p1 = some (r, (X, nx))) (fm : f11_league (M, nx) ma p1 = some (r, (M, nx))), ∃ (r : Int32) (X' : Nat → Option HO) (n' : Nat) (M' : Nat → Option HO) (n'' : Nat), f10_league (X, nx) a p1 = some (r, (X', n')) ∧ f11_league (M, n') ma p1 = some (r, (M', n'')) ∧ d_R a ma X' M' n'' := fun r fx fm => ⟨_, _, _, _, _, fx, fm, hR⟩
  cases e : d_is 8 p1 with
  | false =>
    refine bad (Int32.ofInt (-1)) ?_ ?_
    · unfold f10_league f10_bytesOn
      simp only [c_c hX, x_row0 e, obd, onl, x_why0 e]
    · unfold f11_league
      simp only [n_c hM, m_wrongRow0 e, obd]
      rfl
  | true =>
    obtain ⟨d, hd, rfl⟩ := d_is_n e
    rcases d_SH_RW (sh d hd) with ⟨b1, b2, b3⟩ | ⟨b1, b2, q, k, f, b3, b4, b5, b6, b7⟩ | ⟨b1, b2, r, t, m, g, b3, b4, b5, b6, b7, b8⟩
    · refine bad ((Int8.ofInt (-11)).toInt32) ?_ ?_
      · unfold f10_league
        simp only [c_c hX, (x_bytes (nx := nx) hX s2 hd).1 b3, obd, onl, x_why hX s1 s2 hd, b2, b3]
        rfl
      · unfold f11_league
        simp only [n_c hM, m_wrongRow hM t1 t2 hd, b1, obd]
        rfl
    · refine bad ((Int8.ofInt (-12)).toInt32) ?_ ?_
      · unfold f10_league
        simp only [c_c hX, (x_bytes (nx := nx) hX s2 hd).1 b2, obd, onl, x_why hX s1 s2 hd, b2, b3]
        rfl
      · unfold f11_league
        simp only [n_c hM, m_wrongRow hM t1 t2 hd, b1, obd]
        rfl
    · by_cases ht0 : t = 0
      · subst ht0
        have hm := b5.2.2.1
        have hgw : ∀ i, d_st (d_wd m g (Int32.ofInt (-1))) i = d_st (d_wm m d el) i := d_st_c (d_wd_c b8)
        have hgw2 : ∀ i, d_st (d_wm m d el) i = d_st (d_wd m (fun i => el (100 * d + i)) (Int32.ofInt (-1))) i := fun i => (d_st_c (d_wd_c (fun _ _ => rfl)) i).symm
        -- the scan of the class
        have bk : f10_brokenPlace (X, nx) r = some (match d_scan (d_wm m d el) m 51 0 0 with
            | .inl b => Int32.ofNat b
            | .inr _ => Int32.ofInt (-1)) := by
          have := x_scan (nx := nx) b5 51 0 0 FU (Or.inl rfl) (by omega) (by unfold FU; omega)
          rw [d_scan_c hgw] at this
          unfold f10_brokenPlace
          rw [show iter (f10_brokenPlace_L2 (X, nx) r) FU (Int32.ofInt 0) = _ from this]
          cases d_scan (d_wm m d el) m 51 0 0 <;> rfl
        -- the model begins to read
        have wr : ∀ k, f11_wrongRow (M, k) ma (Int32.ofNat d) (Int32.ofInt 0) = some (Int32.ofInt 0) := fun k => by
          rw [m_wrongRow hM t1 t2 hd, b1, b6, if_neg (by decide), if_pos (by decide), if_neg (by decide), if_pos (by decide)]
        let Mr : Nat → Option HO := d_rs M ma hi th lt lp sd d m 0 u0 S
        let ob : Int32 → Int32 → Int32 → Option HO := fun x y z => some (.inl (11, [.ref (ma + 1), .ref (ma + 2), .ref (ma + 3), .ref (ma + 4), .ref (ma + 5), .ref (ma + 6), .ref (ma + 7), .ref (ma + 8), .ref (ma + 9), .ref (ma + 10), .int hi, .int th, .int x, .int y, .int z, .ref (ma + 11), .int lt, .int lp, .int sd]))
        have eMr : va_up (va_up (va_up M ma (ob po (Int32.ofNat (100 * d)) en)) ma (ob po (Int32.ofNat (100 * d)) (Int32.ofNat m))) ma (ob (Int32.ofNat 0) (Int32.ofNat (100 * d)) (Int32.ofNat m)) = Mr := by
          rw [d_up_up, d_up_up]
          show _ = d_mS (va_up (va_up M (ma + 11) (d_A 2 u0)) ma (ob (Int32.ofNat 0) (Int32.ofNat (100 * d)) (Int32.ofNat m))) ma S
          rw [d_up_e hu0, d_mS_e ((va_up_ne _ _ (by omega)).trans hS0)]
        have fm0 : ∀ k, f11_league (M, k) ma (Int32.ofNat d) = obd (iter (f11_league_L38 ma) FU (Int32.ofInt 0, (Mr, k))) (fun o10 => osm o10 (fun o10 => some o10) (fun o10 => match o10 with | (e38_3, t38) => obd (hfld t38 [11] 0 ma) (fun v19 => obd (hfld t38 [11] 2 ma) (fun v20 => orf v20 (fun b21 => orf v19 (fun b22 => obd (f11_lays t38 b22 b21) (fun s24 => obd (hput s24 [11] 12 ma (.int (Int32.ofInt 0))) (fun s25 => obd (iter (f11_league_L84 ma e38_3) FU s25) (fun o26 => osm o26 (fun o26 => some o26) (fun o26 => match o26 with | t84 => some (e38_3, t84))))))))))) := fun k => by
          have h1 : hput (M, k) [11] 13 ma (.int (Int32.ofNat (100 * d))) = some (va_up M ma (ob po (Int32.ofNat (100 * d)) en), k) := by
            unfold hput hobj
            simp only [show M ma = _ from hM]
            rfl
          have o1 : d_MO (va_up M ma (ob po (Int32.ofNat (100 * d)) en)) ma hi th po (Int32.ofNat (100 * d)) en lt lp sd := va_up_self _ _ _
          have h2 : hput (va_up M ma (ob po (Int32.ofNat (100 * d)) en), k) [11] 14 ma (.int (Int32.ofNat m)) = some (va_up (va_up M ma (ob po (Int32.ofNat (100 * d)) en)) ma (ob po (Int32.ofNat (100 * d)) (Int32.ofNat m)), k) := by
            unfold hput hobj
            simp only [show va_up M ma (ob po (Int32.ofNat (100 * d)) en) ma = _ from o1]
            rfl
          have o2 : d_MO (va_up (va_up M ma (ob po (Int32.ofNat (100 * d)) en)) ma (ob po (Int32.ofNat (100 * d)) (Int32.ofNat m))) ma hi th po (Int32.ofNat (100 * d)) (Int32.ofNat m) lt lp sd := va_up_self _ _ _
          have h3 : hput (va_up (va_up M ma (ob po (Int32.ofNat (100 * d)) en)) ma (ob po (Int32.ofNat (100 * d)) (Int32.ofNat m)), k) [11] 12 ma (.int (Int32.ofInt 0)) = some (Mr, k) := by
            rw [← eMr]
            unfold hput hobj
            simp only [show va_up (va_up M ma (ob po (Int32.ofNat (100 * d)) en)) ma (ob po (Int32.ofNat (100 * d)) (Int32.ofNat m)) ma = _ from o2]
            rfl
          have h4 : hald (va_up M ma (ob po (Int32.ofNat (100 * d)) en), k) (ma + 7) (Int32.ofNat d) = some (Int32.ofNat m) := by
            rw [d_ild _ ((va_up_ne _ _ (by omega)).trans t3) hd (by omega), b7]
          have e100 : (Int8.ofInt 100).toInt32 * Int32.ofNat d = Int32.ofNat (100 * d) := by
            rw [Int32.ofNat_mul]; rfl
          have f6 : hfld (va_up M ma (ob po (Int32.ofNat (100 * d)) en), k) [11] 6 ma = some (.ref (ma + 7)) := n_f o1
          unfold f11_league
          simp only [n_c hM, wr, obd, if_pos (show Int32.ofInt 0 = 0 from rfl), e100, h1, f6, orf, h4, h2, h3]
        have hO : ∀ {i : Nat} {u S' : Nat → Int32} {Z : Nat → Option HO} (hi2 th2 po2 ba2 en2 lt2 lp2 sd2 : Int32), d_MO M ma hi2 th2 po2 ba2 en2 lt2 lp2 sd2 → ∃ th9 po9 ba9 en9 lt9 lp9 sd9, d_MO (d_rs Z ma hi th lt lp sd d m i u S') ma hi2 th9 po9 ba9 en9 lt9 lp9 sd9 := by
          intro i u S' Z hi2 th2 po2 ba2 en2 lt2 lp2 sd2 q
          have q0 : hi2 = hi := by
            have q1 : some _ = some _ := q.symm.trans hM
            simp only [Option.some.injEq, Sum.inl.injEq, Prod.mk.injEq, List.cons.injEq, Value.int.injEq] at q1
            exact q1.2.2.2.2.2.2.2.2.2.2.2.1
          subst q0
          exact ⟨th, Int32.ofNat i, Int32.ofNat (100 * d), Int32.ofNat m, lt, lp, sd, q_MO⟩
        cases es : d_scan (d_wm m d el) m 51 0 0 with
        | inl b =>
          rw [es] at bk
          have bb := d_scan_b 51 0 0 b (Or.inl rfl) (by omega) es
          obtain ⟨u', i', g1⟩ := m_scan (nx := nx) (S := S) (hi := hi) (th := th) (lt := lt) (lp := lp) (sd := sd) (ma := ma) t4 hd hm 51 0 0 FU u0 (Or.inl rfl) (by omega) (by unfold FU; omega)
          rw [es] at g1
          refine ⟨(Int16.ofInt (-1000)).toInt32 - Int32.ofNat b, X, nx, d_rs M ma hi th lt lp sd d m b u' S, nx, ?_, ?_, ?_⟩
          · unfold f10_league
            simp only [c_c hX, (x_bytes (nx := nx) hX s2 hd).2 r _ 0 m g b3 b5, if_true, obd, onl, bk]
            rw [if_neg (by rw [Int32.lt_iff_toInt_lt, d_tn (by omega), d_z0]; omega)]
          · rw [fm0, show iter (f11_league_L38 ma) FU (Int32.ofInt 0, (Mr, nx)) = _ from g1]
            rfl
          · exact d_R_new hR (Nat.le_refl _) (fun _ _ _ => rfl) (fun k hk => q_ne (by omega) (by omega) (by omega)) hO ⟨P, K, F, n, lw, B, S, G, hG, q_1, hS⟩ ⟨_, _, _, _, _, _, G'⟩ ⟨D0, (q_ne (by omega) (by omega) (by omega)).trans hD0⟩ ⟨T0, (q_ne (by omega) (by omega) (by omega)).trans hT0⟩ ⟨u', q_11⟩
        | inr N =>
          rw [es] at bk
          obtain ⟨k, rfl, hk⟩ := d_scan_wh (by decide) 51 0 0 N es
          have k50 : k ≤ 51 := by
            by_cases z : 1 ≤ k
            · have := d_wh_b k 0 hk z; omega
            · omega
          -- the class
          obtain ⟨X1, B1, k1, k2, k3, k4⟩ := x_become (nx := nx) (ad := a + 5) (bd := a + 2) (by omega) (fun k hk => by rw [Nat.add_assoc]; exact d_nok (by omega) (by omega)) G' G
          have hX1 : d_CX X1 a hi := (k4 a (by omega) (by omega) (by omega)).trans hX
          have T1 : d_TB n B1 := d_TB_c (fun i hi => (k2 i (by omega)).symm) hG.1
          have W1 : d_RW X1 r (c d) 0 m g := ⟨(k4 _ (by omega) (by omega) (by omega)).trans b5.1, (k4 _ (by omega) (by omega) (by omega)).trans b5.2.1, b5.2.2⟩
          obtain ⟨X2, nx2, x1, x2, x3, x4, x5⟩ := x_run (g := fun i => el (100 * d + i)) b8 k 0 0 X1 nx P K F n B1 lw 101 (d_wh_c hgw2 k 0 hk) (by omega) ⟨by omega, by omega⟩ hX1 ha k3 ⟨T1, hG.2⟩ b4 W1
          have hX2 : d_CX X2 a hi := (x3 a (by omega) (by omega)).trans hX1
          have G2 : d_LG a nx2 X2 (a + 2) P K F n lw B := d_LG_fr G x2 (fun q hq => (x3 q (d_ok_lt ha hq).1 (by have := (d_ok_lt ha hq).2.1; omega)).trans (k4 q (by have := (d_ok_lt ha hq).2.1; omega) (by have := (d_ok_lt ha hq).2.1; omega) (by have := (d_ok_lt ha hq).2.1; omega))) ((x3 _ (by omega) (by omega)).trans (k4 _ (by omega) (by omega) (by omega))) ((x3 _ (by omega) (by omega)).trans (k4 _ (by omega) (by omega) (by omega))) ((x3 _ (by omega) (by omega)).trans (k4 _ (by omega) (by omega) (by omega)))
          have fx0 : f10_league (X, nx) a (Int32.ofNat d) = obd (iter (f10_league_L48 a r) 101 (Int32.ofInt 0, Int32.ofInt 0, (X1, nx))) (fun o15 => osm o15 (fun o15 => some o15) (fun o15 => match o15 with | (e48_4, t48) => obd (hfld t48 [10] 1 a) (fun v33 => obd (hfld t48 [10] 2 a) (fun v34 => orf v34 (fun b35 => orf v33 (fun b36 => ocl t48 b36 2 (obd (f2_become t48 b36 b35) (fun s38 => some (e48_4, s38))))))))) := by
            unfold f10_league
            simp only [c_c hX, (x_bytes (nx := nx) hX s2 hd).2 r _ 0 m g b3 b5, if_true, obd, onl, bk]
            rw [if_pos (by decide)]
            simp only [c_now hX, c_draft hX, orf, d_ocl (d_hcls (σ := (X, nx)) G'.1.1.1), k1]
          -- the model
          obtain ⟨u', i', g1⟩ := m_scan (nx := nx2) (S := S) (hi := hi) (th := th) (lt := lt) (lp := lp) (sd := sd) (ma := ma) t4 hd hm 51 0 0 FU u0 (Or.inl rfl) (by omega) (by unfold FU; omega)
          rw [es] at g1
          let M2 : Nat → Option HO := va_up M (ma + 3) (d_A 26 (d_ov S D0))
          have hS1 : d_MS S n K F B1 lw := d_MS_cB (fun i hi => ⟨rfl, rfl, (k2 i (by omega)).symm⟩) hS
          obtain ⟨i2, u2, S2, y1, y2⟩ := m_run (nx := nx2) (Z := M2) (ma := ma) (hi := hi) (th := th) (lt := lt) (lp := lp) (sd := sd) (R := d_ov S D0) ((va_up_ne _ _ (by omega)).trans t4) (va_up_self _ _ _) hd hm (Int32.ofNat (0 + k)) k 0 u' S n K F B1 lw FU hk (by unfold FU; omega) (by omega) hS1 ⟨T1, hG.2⟩
          have r3 : d_rs M ma hi th lt lp sd d m i' u' S (ma + 3) = d_A 26 D0 := (q_ne (by omega) (by omega) (by omega)).trans hD0
          have ly := m_lays (nx := nx2) q_1 r3 (show ma + 1 ≠ ma + 3 by omega)
          rw [q_up3] at ly
          have ly' : f11_lays (d_rs M ma hi th lt lp sd d m i' u' S, nx2) (ma + 1) (ma + 3) = some (d_rs M2 ma hi th lt lp sd d m i' u' S, nx2) := ly
          have p12 : hput (d_rs M2 ma hi th lt lp sd d m i' u' S, nx2) [11] 12 ma (.int (Int32.ofInt 0)) = some (d_rs M2 ma hi th lt lp sd d m 0 u' S, nx2) := q_p12 0
          have fm1 : f11_league (M, nx2) ma (Int32.ofNat d) = obd (iter (f11_league_L84 ma (Int32.ofNat (0 + k))) FU (d_rs M2 ma hi th lt lp sd d m 0 u' S, nx2)) (fun o26 => osm o26 (fun o26 => some o26) (fun o26 => match o26 with | t84 => some (Int32.ofNat (0 + k), t84))) := by
            rw [fm0, show iter (f11_league_L38 ma) FU (Int32.ofInt 0, (Mr, nx2)) = _ from g1]
            simp only [obd, osm, q_f0, q_f2, orf, ly', p12]
          have xi : iter (f10_league_L48 a r) 101 (Int32.ofInt 0, Int32.ofInt 0, (X1, nx)) = _ := x1
          have frX : ∀ q, q < nx → ¬ (a + 2 ≤ q ∧ q ≤ a + 7) → X2 q = X q := fun q h0 h1 => (x3 q h0 (by omega)).trans (k4 q (by omega) (by omega) (by omega))
          have frM : ∀ {i : Nat} {u S' : Nat → Int32}, ∀ k, k = 2 ∨ (5 ≤ k ∧ k ≤ 10) → d_rs M2 ma hi th lt lp sd d m i u S' (ma + k) = M (ma + k) := fun k hk => (q_ne (by omega) (by omega) (by omega)).trans (va_up_ne _ _ (by omega))
          have m3 : ∀ {i : Nat} {u S' : Nat → Int32}, ∃ D, d_rs M2 ma hi th lt lp sd d m i u S' (ma + 3) = d_A 26 D := ⟨_, (q_ne (by omega) (by omega) (by omega)).trans (va_up_self _ _ _)⟩
          have m4 : ∀ {i : Nat} {u S' : Nat → Int32}, ∃ T, d_rs M2 ma hi th lt lp sd d m i u S' (ma + 4) = d_A 26 T := ⟨T0, (q_ne (by omega) (by omega) (by omega)).trans ((va_up_ne _ _ (by omega)).trans hT0)⟩
          cases er : d_run (fun i => el (100 * d + i)) k 0 (n, K, F, B1, lw) with
          | inl b =>
            rw [er] at xi y1
            refine ⟨(Int16.ofInt (-2000)).toInt32 - Int32.ofNat b, X2, nx2, d_rs M2 ma hi th lt lp sd d m i2 u2 (d_ov (d_ov S D0) S2), nx2, ?_, ?_, ?_⟩
            · rw [fx0, xi]
              rfl
            · rw [fm1, y1]
              rfl
            · exact d_R_new hR x2 frX frM hO ⟨P, K, F, n, lw, B, _, G2, hG, q_1, d_MS_c hn (fun i hi => (d_ov_i i hi).trans (d_ov_i i hi)) hS⟩ x4 m3 m4 ⟨u2, q_11⟩
          | inr σ =>
            obtain ⟨n3, K3, F3, B3, lw3⟩ := σ
            rw [er] at xi y1
            obtain ⟨hG3, P3, G3⟩ := x5 n3 K3 F3 B3 lw3 er
            have hS3 := y2 n3 K3 F3 B3 lw3 er
            have ha2 : a + 14 ≤ nx2 := by omega
            obtain ⟨X3, B4, j1, j2, j3, j4⟩ := x_become (nx := nx2) (ad := a + 2) (bd := a + 5) (by omega) (fun k hk => by rw [Nat.add_assoc]; exact d_nok (by omega) (by omega)) G2 G3
            refine ⟨Int32.ofNat (0 + k), X3, nx2, d_rs M2 ma hi th lt lp sd d m i2 u2 S2, nx2, ?_, ?_, ?_⟩
            · rw [fx0, xi]
              simp only [obd, osm, c_now hX2, c_draft hX2, orf, d_ocl (d_hcls (σ := (X2, nx2)) G2.1.1.1), j1]
            · rw [fm1, y1]
              rfl
            · refine d_R_new hR x2 (fun q h0 h1 => (j4 q (by omega) (by omega) (by omega)).trans (frX q h0 h1)) frM hO ⟨P3, K3, F3, n3, lw3, B4, S2, j3, ⟨d_TB_c (fun i hi => (j2 i (by have := hG3.2.1; omega)).symm) hG3.1, hG3.2⟩, q_1, d_MS_cB (fun i hi => ⟨rfl, rfl, (j2 i (by have := hG3.2.1; omega)).symm⟩) hS3⟩ ?_ m3 m4 ⟨u2, q_11⟩
              exact ⟨P3, K3, F3, n3, lw3, B3, d_LG_fr G3 (Nat.le_refl _) (fun q hq => j4 q (by have := (d_ok_lt ha2 hq).2.1; omega) (by have := (d_ok_lt ha2 hq).2.1; omega) (by have := (d_ok_lt ha2 hq).2.1; omega)) (j4 _ (by omega) (by omega) (by omega)) (j4 _ (by omega) (by omega) (by omega)) (j4 _ (by omega) (by omega) (by omega))⟩
      · refine bad ((Int8.ofInt (-12)).toInt32) ?_ ?_
        · unfold f10_league
          simp only [c_c hX, (x_bytes (nx := nx) hX s2 hd).2 r _ t m g b3 b5, if_neg ht0, obd, onl, x_why hX s1 s2 hd, b2, b3]
          rfl
        · have ht3 := b5.2.2.2
          have wr : f11_wrongRow (M, nx) ma (Int32.ofNat d) (Int32.ofInt 0) = some ((Int8.ofInt (-12)).toInt32) := by
            rw [m_wrongRow hM t1 t2 hd, b1, b6, if_neg (by decide), if_pos (by decide), if_neg (by decide), if_neg (show ¬ Int32.ofNat t = Int32.ofInt 0 from by rw [show Int32.ofInt 0 = Int32.ofNat 0 from rfl, d_eq (by omega) (by omega)]; exact ht0)]
          unfold f11_league
          simp only [n_c hM, wr, obd, if_neg (show ¬ (Int8.ofInt (-12)).toInt32 = 0 by decide)]
