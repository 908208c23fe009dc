/-! PURE: right, cheapest -/
theorem t_mm {n p q : Nat} (hn : n ≤ 8) (hq : q < n) (hpq : p < q) : p * n + q < n * n ∧ (p * n + q) / n = p ∧ (p * n + q) % n = q :=
  (show ∀ n, n < 9 → ∀ q, q < n → ∀ p, p < q → p * n + q < n * n ∧ (p * n + q) / n = p ∧ (p * n + q) % n = q by decide +kernel) n (by omega) q hq p hpq
theorem d_xy {n : Nat} {K F : Nat → Nat} {lw : Int32} {u : Nat → Nat → Bool} (hn : n ≤ 8) (sel : Nat → Nat → Bool) (t c : Nat) : d_px n K F lw u 3 0 sel t c ↔ d_py n K F lw u 3 0 sel t c := by
  have h28 := d_28 hn
  constructor
  · intro h
    refine d_ps_to (fun k k' h1 h2 _ _ e1 e2 => t_inj (by omega) (by omega) e1 e2) (fun k hk _ => ?_) h
    obtain ⟨n1, n2⟩ := t_n hn hk
    obtain ⟨a1, a2, a3⟩ := t_mm hn n1 (t_e n2).2.2.1
    refine ⟨tL k * n + tG k, ⟨a1, decide_eq_true ?_⟩, a2, a3⟩
    rw [a2, a3]
    exact (t_e n2).2.2.1
  · intro h
    refine d_ps_to (fun k k' h1 h2 _ _ e1 e2 => ?_) (fun k hk hv => ?_) h
    · have q1 := Nat.div_add_mod k n
      have q2 := Nat.div_add_mod k' n
      have e1' : k / n = k' / n := e1
      have e2' : k % n = k' % n := e2
      rw [e1', e2'] at q1
      omega
    · have hv' : k / n < k % n := of_decide_eq_true hv
      have n0 : 0 < n := by
        rcases Nat.eq_zero_or_pos n with z | z
        · rw [z] at hk; omega
        · exact z
      have h2 : k % n < n := Nat.mod_lt _ n0
      have i1 := t_ixm hn hv' h2
      have i2 := t_ix (show d_ix (k / n) (k % n) < 28 by omega) hv' (show k % n < 8 by omega)
      have i3 : k / n = tL (d_ix (k / n) (k % n)) ∧ k % n = tG (d_ix (k / n) (k % n)) := i2 ▸ rfl
      exact ⟨d_ix (k / n) (k % n), ⟨i1, rfl⟩, i3.1.symm, i3.2.symm⟩
theorem d_mw_e {M : Nat → Option HO} {ma : Nat} {hi th po ba en lt lp sd : Int32} (h : d_MO M ma hi th po ba en lt lp sd) : d_mw M ma hi th po ba en sd lt lp = M := by
  funext q
  unfold d_mw va_up
  split
  · rename_i e; rw [e, h]
  · rfl
/-- both at once -/
theorem d_both {a ma nx : Nat} {X M : Nat → Option HO} (hR : d_R a ma X M nx) :
    ∃ (E : Nat → Nat → Prop) (X' X1 M' : Nat → Option HO) (rt rp lt lp : Int32), d_ls (fun v => ∃ t c, E t c ∧ v = t) lt ∧ d_ls (fun v => ∃ t c, E t c ∧ v = c) lp ∧ d_ls (fun v => ∃ t c, E t c ∧ v = t) rt ∧ d_ls (fun v => ∃ t c, E t c ∧ v = c) rp ∧ f10_right (X, nx) a = some (rt, (X', nx)) ∧ f10_cheapest (X, nx) a = some (rp, (X1, nx)) ∧ f11_right (M, nx) ma = some (lt, (M', nx)) ∧ f11_cheapest (M, nx) ma = some (lp, (M', nx)) ∧ d_R a ma X' M' nx ∧ d_R a ma X1 M' nx := by
  have hR0 := hR
  obtain ⟨hi, hX, ha, ⟨th, po, ba, en, lt, lp, sd, hM⟩, ⟨P, K, F, n, lw, B, S, G, hG, hS0, hS⟩, -, ⟨⟨P', K', F', n', lw', B', G'⟩, ⟨tt, htt⟩, -, -, ⟨T0, hT0⟩, -⟩, -⟩ := hR0
  have hn : n ≤ 8 := G.1.2.2
  have kf : d_KF n K F := d_LX_KF G.1
  obtain ⟨X1, B1, k1, k2, k3, k4⟩ := x_become (nx := nx) (ad := a + 5) (bd := a + 2) (by omega) (fun k hk => by rw [Nat.add_assoc]; exact d_nok (by omega) (by omega)) G' G
  have hX1 : d_CX X1 a hi := (k4 a (by omega) (by omega) (by omega)).trans hX
  have T1 : d_TB n B1 := d_TB_c (fun i hi => (k2 i (by omega)).symm) hG.1
  have eX := d_cB_e k3.2.1
  let u : Nat → Nat → Bool := fun p q => d_b (B1 p) q
  let sel : Nat → Nat → Bool := fun _ _ => false
  have hb : ∀ p q, p < q → q < n → d_b (B1 p) q = (u p q ^^ sel p q) := fun p q _ _ => (Bool.xor_false _).symm
  -- the class
  obtain ⟨rt, x1, x2⟩ := x_least (nx := nx) k3.1 u (Int32.ofInt 0) 3 5 0 sel B1 (by omega) (by omega) (Nat.zero_le _) T1 hb (fun _ _ _ => rfl)
  obtain ⟨rp, x3, x4⟩ := x_least (nx := nx) k3.1 u (Int32.ofInt 1) 3 5 0 sel B1 (by omega) (by omega) (Nat.zero_le _) T1 hb (fun _ _ _ => rfl)
  rw [eX] at x1 x3
  have x1' : f10_leastToTurn 5 (X1, nx) (a + 5) (Int32.ofInt 0) (Int32.ofInt 3) (Int32.ofInt 0) = some (rt, (X1, nx)) := x1
  have x3' : f10_leastToTurn 5 (X1, nx) (a + 5) (Int32.ofInt 0) (Int32.ofInt 3) (Int32.ofInt 1) = some (rp, (X1, nx)) := x3
  -- the model
  have hS1 : d_MS S n K F B1 lw := d_MS_cB (fun i hi => ⟨rfl, rfl, (k2 i (by omega)).symm⟩) hS
  have eM : d_mS (d_mw M ma hi th po ba en sd lt lp) ma S = M := by rw [d_mw_e hM, d_mS_e hS0]
  obtain ⟨S', lt', lp', y1, y2, y3, y4⟩ := m_tries (nx := nx) (Z := M) (ma := ma) (hi := hi) (th := th) (po := po) (ba := ba) (en := en) (sd := sd) kf hn hG.2.2 u 3 5 0 sel S B1 ((Int8.ofInt (-4)).toInt32) ((Int8.ofInt (-4)).toInt32) 0 0 (fun _ => False) (fun _ => False) (by omega) (Nat.zero_le _) hS1 T1 hb (fun _ _ _ _ => rfl) (by omega) (by omega) d_ls_0 d_ls_0
  have y1' : f11_tries 5 (d_mS (d_mw M ma hi th po ba en sd ((Int8.ofInt (-4)).toInt32) ((Int8.ofInt (-4)).toInt32)) ma S, nx) ma (Int32.ofInt 0) (Int32.ofInt 0) (Int32.ofInt 0) = some (d_mS (d_mw M ma hi th po ba en sd lt' lp') ma S', nx) := y1
  have pr : f11_putsRight (M, nx) ma = some (d_mS (d_mw M ma hi th po ba en sd lt' lp') ma S', nx) := by
    have h1 : hput (M, nx) [11] 16 ma (.int ((Int8.ofInt (-4)).toInt32)) = some (d_mS (d_mw M ma hi th po ba en sd ((Int8.ofInt (-4)).toInt32) lp) ma S, nx) := by
      have := m_p16 (Z := M) (ma := ma) (nx := nx) (hi := hi) (th := th) (po := po) (ba := ba) (en := en) (sd := sd) (S := S) lt lp ((Int8.ofInt (-4)).toInt32)
      rw [eM] at this
      exact this
    unfold f11_putsRight
    simp only [h1, obd, m_p17, m_c (d_mw_Z _ _), y1']
  have hRR : d_R a ma X1 (d_mS (d_mw M ma hi th po ba en sd lt' lp') ma S') nx := by
    refine d_R_all hR (Nat.le_refl _) (fun q _ h1 _ => k4 q (by omega) (by omega) (by omega)) ⟨_, _, _, _, _, _, k3⟩ ⟨tt, (k4 _ (by omega) (by omega) (by omega)).trans htt⟩ (fun k hk => (d_mS_ne (by omega)).trans (d_mw_ne (by omega) _ _)) ?_ d_mS_at (d_S_keep hn hS0 hS (d_MS_cB (fun i hi => ⟨rfl, rfl, k2 i (by omega)⟩) y2)) ⟨T0, (d_mS_ne (by omega)).trans ((d_mw_ne (by omega) _ _).trans hT0)⟩
    intro hi2 th2 po2 ba2 en2 lt2 lp2 sd2 q
    have q0 : hi2 = hi := by
      have q1 : some _ = some _ := q.symm.trans hM
      simp only [Option.some.injEq, Sum.inl.injEq, Prod.mk.injEq, List.cons.injEq, Value.int.injEq] at q1
      exact q1.2.2.2.2.2.2.2.2.2.2.2.1
    subst q0
    exact ⟨th, po, ba, en, lt', lp', sd, d_mS_0.trans (d_mw_MO _ _)⟩
  refine ⟨fun t c => d_px n K F lw u 3 0 sel t c, X1, X1, d_mS (d_mw M ma hi th po ba en sd lt' lp') ma S', rt, rp, lt', lp', d_ls_c y3 (fun v => ?_), d_ls_c y4 (fun v => ?_), x2, x4, ?_, ?_, ?_, ?_, hRR, hRR⟩
  · constructor
    · rintro (h | ⟨t, c, h1, h2⟩)
      · cases h
      · exact ⟨t, c, (d_xy hn sel t c).mpr h1, by omega⟩
    · rintro ⟨t, c, h1, h2⟩
      exact Or.inr ⟨t, c, (d_xy hn sel t c).mp h1, by omega⟩
  · constructor
    · rintro (h | ⟨t, c, h1, h2⟩)
      · cases h
      · exact ⟨t, c, (d_xy hn sel t c).mpr h1, by omega⟩
    · rintro ⟨t, c, h1, h2⟩
      exact Or.inr ⟨t, c, (d_xy hn sel t c).mp h1, by omega⟩
  · unfold f10_right
    simp only [c_draft hX, c_now hX, obd, orf, d_ocl (d_hcls (σ := (X, nx)) G'.1.1.1), k1, c_draft hX1, x1']
  · unfold f10_cheapest
    simp only [c_draft hX, c_now hX, obd, orf, d_ocl (d_hcls (σ := (X, nx)) G'.1.1.1), k1, c_draft hX1, x3']
  · unfold f11_right
    simp only [n_c hM, pr, obd, m_f16]
  · unfold f11_cheapest
    simp only [n_c hM, pr, obd, m_f17]
theorem sD_right (a ma : Nat) : S_right (d_R a ma) a ma := by
  intro X M nx hR
  obtain ⟨E, X', X1, M', rt, rp, lt, lp, h1, -, h3, -, h5, -, h7, -, h9, -⟩ := d_both hR
  have e : rt = lt := d_ls_u h3 h1 (fun v => Iff.rfl)
  rw [← e] at h7
  exact ⟨rt, X', nx, M', nx, h5, h7, h9⟩
theorem sD_cheapest (a ma : Nat) : S_cheapest (d_R a ma) a ma := by
  intro X M nx hR
  obtain ⟨E, X', X1, M', rt, rp, lt, lp, -, h2, -, h4, -, h6, -, h8, -, h10⟩ := d_both hR
  have e : rp = lp := d_ls_u h4 h2 (fun v => Iff.rfl)
  rw [← e] at h8
  exact ⟨rp, X1, nx, M', nx, h6, h8, h10⟩
