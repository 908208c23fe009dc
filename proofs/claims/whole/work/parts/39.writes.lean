/-! PURE: beat, law, image, restore -/
theorem d_TB_win {n : Nat} {B : Nat → Int32} (hn : n ≤ 8) (T : d_TB n B) {i j : Nat} (hi : i < n) (hj : j < n) (hij : i ≠ j) : d_TB n (d_win B i j) := by
  have wb : ∀ p q, q < 32 → d_b (d_win B i j p) q = if p = j then (d_b (B j) q && !decide (q = i)) else if p = i then (d_b (B i) q || decide (q = j)) else d_b (B p) q := by
    intro p q hq
    unfold d_win upd
    by_cases e1 : p = j
    · rw [if_pos e1, if_pos e1, if_neg (fun e => hij e.symm), d_band, d_bnot _ hq, d_bone (by omega)]
    · rw [if_neg e1, if_neg e1]
      by_cases e2 : p = i
      · rw [if_pos e2, if_pos e2, d_bor, d_bone (by omega)]
      · rw [if_neg e2, if_neg e2]
  refine ⟨fun p hp q hq => ?_, fun p hp => ?_, fun p q hp hq e => ?_⟩
  · by_cases h32 : q < 32
    · rw [wb p q h32]
      split
      · rw [T.1 j hj q hq]; rfl
      · split
        · rw [T.1 i hi q hq]; simp; omega
        · exact T.1 p hp q hq
    · exact d_b32 _ (by omega)
  · rw [wb p p (by omega)]
    split
    · rename_i e; subst e; rw [T.2.1 p hp]; rfl
    · split
      · rename_i e1 e; subst e; rw [T.2.1 p hp]; simp [e1]
      · exact T.2.1 p hp
  · rw [wb q p (by omega), wb p q (by omega)]
    by_cases a1 : q = j
    · subst a1
      rw [if_pos rfl, if_neg e]
      by_cases a2 : p = i
      · subst a2; simp
      · rw [if_neg a2, T.2.2 p q hp hq e]; simp [a2]
    · rw [if_neg a1]
      by_cases a3 : q = i
      · subst a3
        rw [if_pos rfl]
        by_cases a4 : p = j
        · subst a4; simp
        · rw [if_neg a4, if_neg e, T.2.2 p q hp hq e]; simp [a4]
      · rw [if_neg a3]
        by_cases a5 : p = j
        · rw [if_pos a5, T.2.2 p q hp hq e, a5]; simp [a3]
        · rw [if_neg a5]
          by_cases a6 : p = i
          · rw [if_pos a6, T.2.2 p q hp hq e, a6]; simp [a1]
          · rw [if_neg a6]; exact T.2.2 p q hp hq e
theorem d_win_id {n : Nat} {B : Nat → Int32} (hn : n ≤ 8) (T : d_TB n B) {i j : Nat} (hi : i < n) (hj : j < n) (hij : i ≠ j) (h : d_b (B i) j = true) : ∀ p, d_win B i j p = B p := by
  intro p
  apply d_bx
  intro q hq
  unfold d_win upd
  by_cases e1 : p = j
  · rw [if_pos e1, if_neg (fun e => hij e.symm), d_band, d_bnot _ hq, d_bone (by omega), e1]
    by_cases e2 : q = i
    · rw [e2, T.2.2 i j hi hj hij, h]; rfl
    · simp [e2]
  · rw [if_neg e1]
    by_cases e2 : p = i
    · rw [if_pos e2, d_bor, d_bone (by omega), e2]
      by_cases e3 : q = j
      · rw [e3, h]; rfl
      · simp [e3]
    · rw [if_neg e2]
theorem d_mS_ne' {M : Nat → Option HO} {ma : Nat} {S : Nat → Int32} : ∀ q, q ≠ ma + 1 → d_mS M ma S q = M q := fun q h => d_mS_ne h
theorem d_beat_or (c : Bool) : Int32.ofInt 1 - d_i c = d_i (!c) := by cases c <;> decide
theorem sD_beat (a ma : Nat) : S_beat (d_R a ma) a ma := by
  intro X M nx p1 p2 hR
  have hR0 := hR
  obtain ⟨hi, hX, ha, ⟨th, po, ba, en, lt, lp, sd, hM⟩, ⟨P, K, F, n, lw, B, S, ⟨L, hB, hP⟩, hG, hS0, hS⟩, -⟩ := hR0
  have hn : n ≤ 8 := L.2.2
  have eX := d_cB_e hB
  have eM := d_mS_e hS0
  have Z := d_MO_Z hM
  have hX' : d_CX (d_cB X (a + 2) B) a hi := by rw [eX]; exact hX
  by_cases h : d_two n p1 p2 = true
  · obtain ⟨i, j, h1, h2, h3, rfl, rfl⟩ := d_two_n h
    obtain ⟨S', m1, m2⟩ := m_beats (nx := nx) Z hS hn h1 h2
    have m3 : f11_beat (d_mS M ma S, nx) ma (Int32.ofNat i) (Int32.ofNat j) = some (d_i (!d_b (B i) j), (d_mS M ma S', nx)) := by
      unfold f11_beat
      simp only [m_c Z, m_two Z hS hn, h, obd, d_i0, if_neg (show ¬ true = false by simp), m_beaten Z (show i < 8 by omega), (hS.2.2 i h1).2.2, d_bit _ (show j < 32 by omega), m1, d_beat_or]
    cases e : d_b (B i) j with
    | true =>
      have x3 : f10_beat (d_cB X (a + 2) B, nx) a (Int32.ofNat i) (Int32.ofNat j) = some (Int32.ofInt 0, (d_cB X (a + 2) B, nx)) := by
        unfold f10_beat
        simp only [c_now hX', obd, orf, x_c L, x_two L, h, d_i0, if_neg (show ¬ true = false by simp), x_hasBeaten L (show i < 8 by omega) (show j < 32 by omega), e]
      rw [eX] at x3
      rw [eM, e] at m3
      refine ⟨_, _, _, _, _, x3, m3, ?_⟩
      refine d_R_now hR (Nat.le_refl _) (fun q _ _ => rfl) d_mS_ne' ⟨P, K, F, n, lw, B, S', ⟨L, hB, hP⟩, hG, d_mS_at, ?_⟩
      exact d_MS_cB (fun i' hi' => ⟨rfl, rfl, d_win_id hn hG.1 h1 h2 h3 e i'⟩) m2
    | false =>
      have x3 : f10_beat (d_cB X (a + 2) B, nx) a (Int32.ofNat i) (Int32.ofNat j) = some (Int32.ofInt 1, (d_cB X (a + 2) (d_win B i j), nx)) := by
        unfold f10_beat
        simp only [c_now hX', obd, orf, x_c L, x_two L, h, d_i0, if_neg (show ¬ true = false by simp), x_hasBeaten L (show i < 8 by omega) (show j < 32 by omega), e, if_true, x_win L (show i < 8 by omega) (show j < 8 by omega)]
      rw [eX] at x3
      rw [eM, e] at m3
      refine ⟨_, _, _, _, _, x3, m3, ?_⟩
      refine d_R_now hR (Nat.le_refl _) (fun q _ hq => d_cB_ne (by omega)) d_mS_ne' ⟨P, K, F, n, lw, d_win B i j, S', d_LG_cB L hP, ⟨d_TB_win hn hG.1 h1 h2 h3, hG.2⟩, d_mS_at, m2⟩
  · rw [Bool.not_eq_true] at h
    refine ⟨Int32.ofInt (-1), X, nx, M, nx, ?_, ?_, hR⟩
    · have x3 : f10_beat (d_cB X (a + 2) B, nx) a p1 p2 = some (Int32.ofInt (-1), (d_cB X (a + 2) B, nx)) := by
        unfold f10_beat
        simp only [c_now hX', obd, orf, x_c L, x_two L, h, d_i0, if_true]
      rw [eX] at x3
      exact x3
    · have m3 : f11_beat (d_mS M ma S, nx) ma p1 p2 = some (Int32.ofInt (-1), (d_mS M ma S, nx)) := by
        unfold f11_beat
        simp only [m_c Z, m_two Z hS hn, h, obd, d_i0, if_true]
      rw [eM] at m3
      exact m3
theorem d_law_c {X X' : Nat → Option HO} {ad n : Nat} {P K F : Nat → Nat} {lw v : Int32} (L : d_LX X ad P K F n lw) (h0 : X' ad = some (.inl (2, [.ref (ad + 1), .ref (ad + 2), .int (Int32.ofNat n), .int v]))) (h : ∀ q, q ≠ ad → X' q = X q) : d_LX X' ad P K F n v := by
  obtain ⟨⟨b1, PA, b2, b3⟩, b4, b5⟩ := L
  refine ⟨⟨h0, PA, (h _ (by omega)).trans b2, b3⟩, fun i hi => ⟨⟨(h _ ?_).trans (b4 i hi).1.1, (b4 i hi).1.2⟩, (b4 i hi).2⟩, b5⟩
  intro e
  have q := (b4 i hi).1.1
  rw [e, b1] at q
  simp only [Option.some.injEq, Sum.inl.injEq, Prod.mk.injEq] at q
  cases q.2
theorem sD_law (a ma : Nat) : S_law (d_R a ma) a ma := by
  intro X M nx p1 hR
  have hR0 := hR
  obtain ⟨hi, hX, ha, ⟨th, po, ba, en, lt, lp, sd, hM⟩, ⟨P, K, F, n, lw, B, S, ⟨L, hB, hP⟩, hG, hS0, hS⟩, -⟩ := hR0
  have hn : n ≤ 8 := L.2.2
  have eM := d_mS_e hS0
  have Z := d_MO_Z hM
  by_cases h : p1.toInt = 1 ∨ p1.toInt = 2
  · let X1 : Nat → Option HO := va_up X (a + 2) (some (.inl (2, [.ref (a + 2 + 1), .ref (a + 2 + 2), .int (Int32.ofNat n), .int p1])))
    refine ⟨lw, X1, nx, d_mS M ma (upd S 1 p1), nx, ?_, ?_, ?_⟩
    · unfold f10_law
      have g1 : hfi (X, nx) [2] 3 (a + 2) = some lw := d_hfi (σ := (X, nx)) L.1.1 rfl rfl
      have g2 : hput (X, nx) [2] 3 (a + 2) (.int p1) = some (X1, nx) := by
        unfold hput hobj
        simp only [L.1.1]
        rfl
      simp only [isLaw_x, if_pos h, obd, if_neg (show ¬ (1 : Int32) = 0 by decide), c_now hX, orf, g1, g2]
    · rw [← eM]
      unfold f11_law
      rw [eM]
      have q1 := m_f0 (nx := nx) (S := S) Z
      have q2 := m_ld1 (Z := M) (ma := ma) (nx := nx) (S := S)
      have q3 := m_st1 (Z := M) (ma := ma) (nx := nx) (S := S) (x := p1)
      rw [eM] at q1 q2 q3
      simp only [isLaw_m, if_pos h, obd, if_neg (show ¬ (1 : Int32) = 0 by decide), q1, orf, q2, q3, hS.2.1]
    · refine d_R_now hR (Nat.le_refl _) (fun q _ hq => va_up_ne _ _ (by omega)) d_mS_ne' ⟨P, K, F, n, p1, B, upd S 1 p1, ⟨d_law_c L (va_up_self _ _ _) (fun q hq => va_up_ne _ _ hq), (va_up_ne _ _ (by omega)).trans hB, hP⟩, ⟨hG.1, hG.2.1, h.imp (fun e => Int32.toInt_inj.mp (e.trans (by decide))) (fun e => Int32.toInt_inj.mp (e.trans (by decide)))⟩, d_mS_at, ?_⟩
      refine ⟨?_, if_pos rfl, fun i hi => ⟨?_, ?_, ?_⟩⟩
      · exact (if_neg (by omega)).trans hS.1
      · exact (if_neg (by omega)).trans (hS.2.2 i hi).1
      · exact (if_neg (by omega)).trans (hS.2.2 i hi).2.1
      · exact (if_neg (by omega)).trans (hS.2.2 i hi).2.2
  · refine ⟨Int32.ofInt (-1), X, nx, M, nx, ?_, ?_, hR⟩
    · unfold f10_law
      simp only [isLaw_x, if_neg h, obd, if_true]
    · unfold f11_law
      simp only [isLaw_m, if_neg h, obd, if_true]
theorem d_nok {a nx k : Nat} (h1 : 2 ≤ k) (h2 : k ≤ 13) : ¬ d_ok a nx (a + k) := by unfold d_ok; omega
theorem sD_restore (a ma : Nat) : S_restore (d_R a ma) a ma := by
  intro X M nx hR
  have hR0 := hR
  obtain ⟨hi, hX, ha, ⟨th, po, ba, en, lt, lp, sd, hM⟩, ⟨P, K, F, n, lw, B, S, LG, hG, hS0, hS⟩, ⟨P', K', F', n', lw', B', S', LG', hS0', hI⟩, -⟩ := hR0
  have x1 : hfi (X, nx) [10] 4 a = some hi := d_hfi (σ := (X, nx)) hX rfl rfl
  have y1 : hfi (M, nx) [11] 10 ma = some hi := d_hfi (σ := (M, nx)) hM rfl rfl
  rcases hI with rfl | ⟨rfl, hG', hS'⟩
  · refine ⟨(Int8.ofInt (-3)).toInt32, X, nx, M, nx, ?_, ?_, hR⟩
    · unfold f10_restore
      simp only [x1, obd, if_true]
    · unfold f11_restore
      simp only [y1, obd, if_true]
  · obtain ⟨X1, B1, k1, k2, k3, k4⟩ := x_become (nx := nx) (ad := a + 2) (bd := a + 8) (by omega) (fun k hk => by rw [Nat.add_assoc]; exact d_nok (by omega) (by omega)) LG LG'
    have hX1 : d_CX X1 a 1 := (k4 a (by omega) (by omega) (by omega)).trans hX
    have lays := m_lays (nx := nx) hS0' hS0 (by omega)
    refine ⟨Int32.ofNat n', X1, nx, d_mS M ma (fun j => if j < 26 then S' j else S j), nx, ?_, ?_, ?_⟩
    · unfold f10_restore
      have q1 : ocl (X, nx) (a + 2) 2 (α := HM) = fun x => x := by funext x; exact d_ocl (d_hcls (σ := (X, nx)) LG.1.1.1) x
      have q2 : hfi (X1, nx) [2] 2 (a + 2) = some (Int32.ofNat n') := d_hfi (σ := (X1, nx)) k3.1.1.1 rfl rfl
      simp only [x1, obd, if_neg (show ¬ (1 : Int32) = 0 by decide), c_now hX, c_pic hX, orf, k1, d_ocl (d_hcls (σ := (X, nx)) LG.1.1.1), c_now hX1, q2]
    · unfold f11_restore
      have z1 : hfld (M, nx) [11] 1 ma = some (.ref (ma + 2)) := d_hfld (σ := (M, nx)) hM rfl
      have z0 : hfld (M, nx) [11] 0 ma = some (.ref (ma + 1)) := d_hfld (σ := (M, nx)) hM rfl
      simp only [y1, obd, if_neg (show ¬ (1 : Int32) = 0 by decide), z1, z0, orf, lays]
      have Z := d_MO_Z hM
      have w0 := m_f0 (nx := nx) (S := fun j => if j < 26 then S' j else S j) Z
      have w1 := m_ld0 (Z := M) (ma := ma) (nx := nx) (S := fun j => if j < 26 then S' j else S j)
      unfold d_mS at w0 w1 ⊢
      simp only [w0, w1, if_pos (show 0 < 26 by omega), hS'.1]
    · refine d_R_now hR (Nat.le_refl _) (fun q _ hq => k4 q (by omega) (by omega) (by omega)) d_mS_ne' ⟨P', K', F', n', lw', B1, _, k3, ⟨d_TB_c (fun i hi => (k2 i (by have := hG'.2.1; omega)).symm) hG'.1, hG'.2⟩, d_mS_at, ?_⟩
      exact d_MS_cB (fun i hi => ⟨rfl, rfl, (k2 i (by have := hG'.2.1; omega)).symm⟩) (d_MS_c (by have := hG'.2.1; omega) (fun i hi => if_pos hi) hS')
theorem sD_image (a ma : Nat) : S_image (d_R a ma) a ma := by
  intro X M nx hR
  obtain ⟨hi, hX, ha, ⟨th, po, ba, en, lt, lp, sd, hM⟩, RN, RI, RD, RS⟩ := hR
  have RN0 := RN
  have RI0 := RI
  obtain ⟨P, K, F, n, lw, B, S, LG, hG, hS0, hS⟩ := RN0
  obtain ⟨P', K', F', n', lw', B', S', LG', hS0', hI⟩ := RI0
  obtain ⟨X1, B1, k1, k2, k3, k4⟩ := x_become (nx := nx) (ad := a + 8) (bd := a + 2) (by omega) (fun k hk => by rw [Nat.add_assoc]; exact d_nok (by omega) (by omega)) LG' LG
  have hX1 : d_CX X1 a hi := (k4 a (by omega) (by omega) (by omega)).trans hX
  have lays := m_lays (nx := nx) hS0 hS0' (by omega)
  let X2 : Nat → Option HO := va_up X1 a (some (.inl (10, [.ref (a + 1), .ref (a + 2), .ref (a + 5), .ref (a + 8), .int (Int32.ofInt 1), .ref (a + 11), .ref (a + 12), .ref (a + 13)])))
  let M1 : Nat → Option HO := va_up M (ma + 2) (d_A 26 (fun j => if j < 26 then S j else S' j))
  let M2 : Nat → Option HO := va_up M1 ma (some (.inl (11, [.ref (ma + 1), .ref (ma + 2), .ref (ma + 3), .ref (ma + 4), .ref (ma + 5), .ref (ma + 6), .ref (ma + 7), .ref (ma + 8), .ref (ma + 9), .ref (ma + 10), .int (Int32.ofInt 1), .int th, .int po, .int ba, .int en, .ref (ma + 11), .int lt, .int lp, .int sd])))
  have u : ∀ q, q ≠ a → ¬ (a + 8 ≤ q ∧ q ≤ a + 10) → X2 q = X q := fun q h0 h1 => (va_up_ne _ _ h0).trans (k4 q (by omega) (by omega) (by omega))
  have v : ∀ q, q ≠ ma → q ≠ ma + 2 → M2 q = M q := fun q h0 h1 => (va_up_ne _ _ h0).trans (va_up_ne _ _ h1)
  have ok : ∀ q, d_ok a nx q → X2 q = X q := fun q hq => u q (d_ok_lt ha hq).2.2 (by have := (d_ok_lt ha hq).2.1; omega)
  refine ⟨Int32.ofNat n, X2, nx, M2, nx, ?_, ?_, ?_⟩
  · unfold f10_image
    have q2 : hput (X1, nx) [10] 4 a (.int (Int32.ofInt 1)) = some (X2, nx) := by
      unfold hput hobj
      simp only [show X1 a = _ from hX1]
      rfl
    have q3 : hfld (X2, nx) [10] 1 a = some (.ref (a + 2)) := d_hfld (σ := (X2, nx)) (va_up_self _ _ _) rfl
    have q4 : hfi (X2, nx) [2] 2 (a + 2) = some (Int32.ofNat n) := d_hfi (σ := (X2, nx)) ((u _ (by omega) (by omega)).trans LG.1.1.1) rfl rfl
    simp only [obd, c_now hX, c_pic hX, orf, k1, d_ocl (d_hcls (σ := (X, nx)) LG'.1.1.1), q2, q3, q4]
  · unfold f11_image
    have z1 : hfld (M, nx) [11] 1 ma = some (.ref (ma + 2)) := d_hfld (σ := (M, nx)) hM rfl
    have z0 : hfld (M, nx) [11] 0 ma = some (.ref (ma + 1)) := d_hfld (σ := (M, nx)) hM rfl
    have z2 : hput (M1, nx) [11] 10 ma (.int (Int32.ofInt 1)) = some (M2, nx) := by
      unfold hput hobj
      simp only [show M1 ma = _ from (va_up_ne _ _ (by omega)).trans hM]
      rfl
    have z3 : hfld (M2, nx) [11] 0 ma = some (.ref (ma + 1)) := d_hfld (σ := (M2, nx)) (va_up_self _ _ _) rfl
    have z4 : hald (M2, nx) (ma + 1) (Int32.ofInt 0) = some (S 0) := d_ald (σ := (M2, nx)) (i := 0) ((v _ (by omega) (by omega)).trans hS0) (by omega) (by omega)
    simp only [obd, z1, z0, orf, lays, show (va_up M (ma + 2) (d_A 26 (fun j => if j < 26 then S j else S' j)), nx) = (M1, nx) from rfl, z2, z3, z4, hS.1]
  · refine ⟨1, va_up_self _ _ _, ha, ⟨th, po, ba, en, lt, lp, sd, va_up_self _ _ _⟩, d_RN_fr RN (Nat.le_refl _) ok (u _ (by omega) (by omega)) (u _ (by omega) (by omega)) (u _ (by omega) (by omega)) (fun S n K F B lw h1 _ h2 => ⟨S, (v _ (by omega) (by omega)).trans h1, h2⟩), ?_, d_RD_fr RD (Nat.le_refl _) ok (u _ (by omega) (by omega)) (u _ (by omega) (by omega)) (u _ (by omega) (by omega)) (u _ (by omega) (by omega)) (v _ (by omega) (by omega)) (v _ (by omega) (by omega)) (v _ (by omega) (by omega)), d_RS_fr RS (Nat.le_refl _) ok (u _ (by omega) (by omega)) (u _ (by omega) (by omega)) (fun k h1 h2 => v _ (by omega) (by omega))⟩
    refine ⟨P, K, F, n, lw, B1, _, ?_, (va_up_ne _ _ (by omega)).trans (va_up_self _ _ _), Or.inr ⟨rfl, ⟨d_TB_c (fun i hi => (k2 i (by have := hG.2.1; omega)).symm) hG.1, hG.2⟩, d_MS_cB (fun i hi => ⟨rfl, rfl, (k2 i (by have := hG.2.1; omega)).symm⟩) (d_MS_c (by have := hG.2.1; omega) (fun i hi => if_pos hi) hS)⟩⟩
    exact d_LG_fr k3 (Nat.le_refl _) (fun q hq => va_up_ne _ _ (d_ok_lt ha hq).2.2) (va_up_ne _ _ (by omega)) (va_up_ne _ _ (by omega)) (va_up_ne _ _ (by omega))
