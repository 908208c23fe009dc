/-! PURE: leavers -/
theorem d_R_dm {a ma nx nx' : Nat} {X X' M : Nat → Option HO} {S' T' : Nat → Int32} (h : d_R a ma X M nx) (hn : nx ≤ nx') (hX : ∀ q, q < nx → ¬ (a + 5 ≤ q ∧ q ≤ a + 7) → q ≠ a + 13 → X' q = X q) (hD : ∃ P K F n lw B, d_LG a nx' X' (a + 5) P K F n lw B) (hT : ∃ t, X' (a + 13) = d_A 8 t) (hS : ∀ S n K F B lw, M (ma + 1) = d_A 26 S → n ≤ 8 → d_MS S n K F B lw → d_MS S' n K F B lw) : d_R a ma X' (d_mS (va_up M (ma + 4) (d_A 26 T')) ma S') nx' := by
  have h0 := h
  obtain ⟨hi, b1, b2, b3, b4, b5, ⟨-, -, -, c2, c3, c4⟩, b7⟩ := h0
  have u : ∀ q, q ≠ ma + 1 → q ≠ ma + 4 → d_mS (va_up M (ma + 4) (d_A 26 T')) ma S' q = M q := fun q h1 h2 => (d_mS_ne h1).trans (va_up_ne _ _ h2)
  refine d_R_mind h hn hX (fun k hk => u _ (by omega) (by omega)) (fun hi th po ba en lt lp sd q => ⟨th, po, ba, en, lt, lp, sd, (u _ (by omega) (by omega)).trans q⟩) (fun S n K F B lw g1 g2 g3 => ⟨S', d_mS_at, hS S n K F B lw g1 g2 g3⟩) hD hT ⟨?_, ⟨T', (d_mS_ne (by omega)).trans (va_up_self _ _ _)⟩, ?_⟩
  · obtain ⟨D, q⟩ := c2; exact ⟨D, (u _ (by omega) (by omega)).trans q⟩
  · obtain ⟨D, q⟩ := c4; exact ⟨D, (u _ (by omega) (by omega)).trans q⟩
theorem d_or_0 (x : Int32) : x ||| Int32.ofInt 0 = x := by
  apply d_bx
  intro j _
  rw [d_bor, d_bz]; simp
theorem d_uB_c {n l : Nat} {B B' : Nat → Int32} (h : ∀ i, i < n → B i = B' i) : ∀ i, i + 1 < n → d_uB n l B i = d_uB n l B' i := fun i hi => by
  unfold d_uB d_rm
  rw [if_pos hi, if_pos hi]
  by_cases z : l ≤ i ∧ i + 1 < n
  · rw [if_pos z, if_pos z, h _ (by omega)]
  · rw [if_neg z, if_neg z, h _ (by omega)]
theorem d_KF_rm {n l : Nat} {K F : Nat → Nat} (h : d_KF n K F) : d_KF (n - 1) (d_rm n l K) (d_rm n l F) := fun i hi => by
  unfold d_rm
  by_cases z : l ≤ i ∧ i + 1 < n
  · rw [if_pos z, if_pos z]; exact h _ (by omega)
  · rw [if_neg z, if_neg z]; exact h _ (by omega)
theorem sD_leavers (a ma : Nat) : S_leavers (d_R a ma) a ma := by
  intro X M nx hR
  have hR0 := hR
  obtain ⟨hi, hX, ha, ⟨th, po, ba, en, lt, lp, sd, hM⟩, ⟨P, K, F, n, lw, B, S, G, hG, hS0, hS⟩, -, ⟨⟨P', K', F', n', lw', B', G'⟩, ⟨tt, htt⟩, -, -, ⟨T0, hT0⟩, -⟩, -⟩ := hR0
  have Z := d_MO_Z hM
  have eM := d_mS_e hS0
  have hn : n ≤ 8 := G.1.2.2
  let f : Nat → Bool := fun p => d_lw (n - 1) (d_rm n p K) (d_rm n p F) (d_uB n p B) lw
  -- the class
  obtain ⟨rx, x1, X', rfl, x2, x3⟩ := d_it (step := f10_leavers_L4 a) (fun k w => ∃ X', w = (d_mk k f, Int32.ofNat k, (X', nx)) ∧ (∃ P K F n lw B, d_LG a nx X' (a + 5) P K F n lw B) ∧ ∀ q, ¬ (a + 5 ≤ q ∧ q ≤ a + 7) → X' q = X q) (fun r => ∃ X', r = (d_mk n f, (X', nx)) ∧ (∃ P K F n lw B, d_LG a nx X' (a + 5) P K F n lw B) ∧ ∀ q, ¬ (a + 5 ≤ q ∧ q ≤ a + 7) → X' q = X q) n (by
      rintro k w hk ⟨X', rfl, ⟨P2, K2, F2, n2, lw2, B2, G2⟩, hq⟩
      have ok' : ∀ q, d_ok a nx q → X' q = X q := fun q hq' => hq q (by have := (d_ok_lt ha hq').2.1; omega)
      have Gn : d_LG a nx X' (a + 2) P K F n lw B := d_LG_fr G (Nat.le_refl _) ok' (hq _ (by omega)) (hq _ (by omega)) (hq _ (by omega))
      have hX' : d_CX X' a hi := (hq a (by omega)).trans hX
      obtain ⟨X1, B1, k1, k2, k3, k4⟩ := x_become (nx := nx) (ad := a + 5) (bd := a + 2) (by omega) (fun k hk => by rw [Nat.add_assoc]; exact d_nok (by omega) (by omega)) G2 Gn
      have hX1 : d_CX X1 a hi := (k4 a (by omega) (by omega) (by omega)).trans hX'
      obtain ⟨X3, u1, u2, u3⟩ := x_unseat k3 hk (fun k hk => by rw [Nat.add_assoc]; exact d_nok (by omega) (by omega)) nx
      have hX3 : d_CX X3 a hi := (u3 a (by omega) (by omega) (by omega)).trans hX1
      have T1 : d_TB n B1 := d_TB_c (fun i hi => (k2 i (by omega)).symm) hG.1
      have xl := x_lawful (nx := nx) u2.1 (d_TB_un hn hk T1)
      rw [d_cB_e u2.2.1, d_lw_c (K' := d_rm n k K) (F' := d_rm n k F) (B' := d_uB n k B) lw (fun i hi => ⟨rfl, rfl, d_uB_c (fun i hi => k2 i (by omega)) i (by omega)⟩)] at xl
      have g1 : hfi (X', nx) [2] 2 (a + 2) = some (Int32.ofNat n) := d_hfi (σ := (X', nx)) Gn.1.1.1 rfl rfl
      unfold f10_leavers_L4
      simp only [c_now hX', obd, orf, g1, d_lef hk (by omega), if_false, c_draft hX', d_ocl (d_hcls (σ := (X', nx)) G2.1.1.1), k1, c_draft hX1, d_ocl (d_hcls (σ := (X1, nx)) k3.1.1.1), u1, c_draft hX3, d_ocl (d_hcls (σ := (X3, nx)) u2.1.1.1), xl, d_i0, d_su, d_one_e (show k < 32 by omega)]
      refine Or.inl ⟨(d_mk (k + 1) f, Int32.ofNat (k + 1), (X3, nx)), ?_, X3, rfl, ⟨_, _, _, _, _, _, u2⟩, fun q h1 => (u3 q (by omega) (by omega) (by omega)).trans ((k4 q (by omega) (by omega) (by omega)).trans (hq q h1))⟩
      show (if f k = false then _ else _) = some (Sum.inl ((if f k = true then d_mk k f ||| d_one k else d_mk k f), _))
      cases f k <;> simp) (by
      rintro w ⟨X', rfl, hd, hq⟩
      have ok' : ∀ q, d_ok a nx q → X' q = X q := fun q hq' => hq q (by have := (d_ok_lt ha hq').2.1; omega)
      have Gn : d_LG a nx X' (a + 2) P K F n lw B := d_LG_fr G (Nat.le_refl _) ok' (hq _ (by omega)) (hq _ (by omega)) (hq _ (by omega))
      have hX' : d_CX X' a hi := (hq a (by omega)).trans hX
      have g1 : hfi (X', nx) [2] 2 (a + 2) = some (Int32.ofNat n) := d_hfi (σ := (X', nx)) Gn.1.1.1 rfl rfl
      unfold f10_leavers_L4
      simp only [c_now hX', obd, orf, g1, d_let, if_true]
      exact ⟨_, rfl, X', rfl, hd, hq⟩) FU 0 (Int32.ofInt 0, Int32.ofInt 0, (X, nx)) (by omega) (by unfold FU; omega) ⟨X, rfl, ⟨_, _, _, _, _, _, G'⟩, fun q _ => rfl⟩
  -- the model
  let Zb : Nat → Option HO := va_up M (ma + 4) (d_A 26 (d_ov S T0))
  have hZb : d_MO Zb ma hi th po ba en lt lp sd := (va_up_ne _ _ (by omega)).trans hM
  have ZZ := d_MO_Z hZb
  have eZ : d_mS Zb ma S = Zb := d_mS_e ((va_up_ne _ _ (by omega)).trans hS0)
  obtain ⟨rm, y1, S', rfl, y2⟩ := d_it (step := f11_leavers_L15 ma (Int32.ofNat n)) (fun k w => ∃ S', w = (d_mk k f, Int32.ofNat k, (d_mS Zb ma S', nx)) ∧ d_MS S' n K F B lw) (fun r => ∃ S', r = (d_mk n f, (d_mS Zb ma S', nx)) ∧ d_MS S' n K F B lw) n (by
      rintro k w hk ⟨S', rfl, hS'⟩
      obtain ⟨S2, u1, u2⟩ := m_leaves (nx := nx) ZZ hS' hn hk
      have ml := m_lawful (nx := nx) ZZ u2 (show n - 1 ≤ 8 by omega) (d_KF_rm (d_LX_KF G.1)) (d_TB_un hn hk hG.1) hG.2.2
      unfold f11_leavers_L15
      simp only [d_lef hk (by omega), if_false, m_c ZZ, u1, obd, ml, m_ends hZb (T := d_ov S T0) (va_up_self _ _ _), d_i0, d_su, d_one_e (show k < 32 by omega), d_or_0]
      refine Or.inl ⟨(d_mk (k + 1) f, Int32.ofNat (k + 1), (d_mS Zb ma (d_ov (d_ov S T0) S2), nx)), ?_, _, rfl, d_MS_c hn (fun i hi => (d_ov_i i hi).trans (d_ov_i i hi)) hS⟩
      show (if f k = false then _ else _) = some (Sum.inl ((if f k = true then d_mk k f ||| d_one k else d_mk k f), _))
      cases f k <;> simp) (by
      rintro w ⟨S', rfl, hS'⟩
      unfold f11_leavers_L15
      simp only [d_let, if_true]
      exact ⟨_, rfl, S', rfl, hS'⟩) FU 0 (Int32.ofInt 0, Int32.ofInt 0, (Zb, nx)) (by omega) (by unfold FU; omega) ⟨S, by rw [eZ]; rfl, hS⟩
  refine ⟨d_mk n f, X', nx, d_mS Zb ma S', nx, ?_, ?_, d_R_dm hR (Nat.le_refl _) (fun q _ h1 _ => x3 q h1) x2 ⟨tt, (x3 _ (by omega)).trans htt⟩ (d_S_keep hn hS0 hS y2)⟩
  · unfold f10_leavers
    rw [x1]
    rfl
  · unfold f11_leavers
    have z0 : hfld (M, nx) [11] 0 ma = some (.ref (ma + 1)) := n_f hM
    have z1 : hald (M, nx) (ma + 1) (Int32.ofInt 0) = some (Int32.ofNat n) := (d_ald (σ := (M, nx)) (i := 0) hS0 (by omega) (by omega)).trans (by rw [hS.1])
    simp only [z0, obd, orf, z1, n_c hM, m_begins hM hS0 hT0]
    rw [show ((va_up M (ma + 4) (d_A 26 (d_ov S T0)), nx) : HM) = (Zb, nx) from rfl, y1]
