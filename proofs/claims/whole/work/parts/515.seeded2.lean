/-! PURE: seeded, the model and the call -/
theorem d_up_cm {α : Type} (f : Nat → α) {p q : Nat} (h : p ≠ q) (x y z : α) : va_up (va_up (va_up f p x) q y) p z = va_up (va_up f p z) q y := by
  funext j
  unfold va_up
  by_cases e1 : j = p
  · have e2 : ¬ j = q := fun e => h (e1.symm.trans e)
    simp only [if_pos e1, if_neg e2]
  · simp only [if_neg e1]
def d_mz (Z : Nat → Option HO) (ma : Nat) (hi th po ba en lt lp z : Int32) : Nat → Option HO := va_up Z ma (some (.inl (11, [.ref (ma + 1), .ref (ma + 2), .ref (ma + 3), .ref (ma + 4), .ref (ma + 5), .ref (ma + 6), .ref (ma + 7), .ref (ma + 8), .ref (ma + 9), .ref (ma + 10), .int hi, .int th, .int po, .int ba, .int en, .ref (ma + 11), .int lt, .int lp, .int z])))
section MSEED
variable {Z : Nat → Option HO} {ma n nx : Nat} {hi th po ba en lt lp : Int32} {S : Nat → Int32} {K F : Nat → Nat} {lw : Int32}
theorem d_mz_MO (z : Int32) : d_MO (d_mz Z ma hi th po ba en lt lp z) ma hi th po ba en lt lp z := va_up_self _ _ _
theorem d_mz_Z (z : Int32) : d_MZ (d_mz Z ma hi th po ba en lt lp z) ma := d_MO_Z (d_mz_MO z)
theorem d_mz_ne {q : Nat} (h : q ≠ ma) (z : Int32) : d_mz Z ma hi th po ba en lt lp z q = Z q := va_up_ne _ _ h
theorem m_f18 (z : Int32) : hfi (d_mS (d_mz Z ma hi th po ba en lt lp z) ma S, nx) [11] 18 ma = some z := d_hfi (σ := (d_mS (d_mz Z ma hi th po ba en lt lp z) ma S, nx)) (d_mS_0.trans (d_mz_MO z)) rfl rfl
theorem m_p18 (z y : Int32) : hput (d_mS (d_mz Z ma hi th po ba en lt lp z) ma S, nx) [11] 18 ma (.int y) = some (d_mS (d_mz Z ma hi th po ba en lt lp y) ma S, nx) := by
  rw [show d_mS (d_mz Z ma hi th po ba en lt lp y) ma S = va_up (d_mS (d_mz Z ma hi th po ba en lt lp z) ma S) ma (some (.inl (11, [.ref (ma + 1), .ref (ma + 2), .ref (ma + 3), .ref (ma + 4), .ref (ma + 5), .ref (ma + 6), .ref (ma + 7), .ref (ma + 8), .ref (ma + 9), .ref (ma + 10), .int hi, .int th, .int po, .int ba, .int en, .ref (ma + 11), .int lt, .int lp, .int y]))) from (d_up_cm Z (show ma ≠ ma + 1 by omega) _ _ _).symm]
  unfold hput hobj
  simp only [show d_mS (d_mz Z ma hi th po ba en lt lp z) ma S ma = _ from d_mS_0.trans (d_mz_MO z)]
  rfl
theorem m_drawn {m : Nat} (h1 : 1 ≤ m) (h2 : m < 1000) (z : Int32) : f11_drawn (d_mS (d_mz Z ma hi th po ba en lt lp z) ma S, nx) ma (Int32.ofNat m) = some (d_dr m (d_nz z), (d_mS (d_mz Z ma hi th po ba en lt lp (d_nz z)) ma S, nx)) := by
  unfold f11_drawn
  simp only [m_f18, obd, m_p18, onz, if_neg (show ¬ (65536 : Int32) = 0 by decide), if_neg (d_pos h1 h2).2]
  rfl
theorem m_skill (h : d_MZ Z ma) {B : Nat → Int32} (hS : d_MS S n K F B lw) (hn : n ≤ 8) (hk : d_KF n K F) {i : Nat} (hi : i < n) : f11_skill (d_mS Z ma S, nx) ma (Int32.ofNat i) = some (Int32.ofNat (d_sk K F i)) := by
  unfold f11_skill
  simp only [m_c h, obd, m_kind h (show i < 8 by omega), m_figure h (show i < 8 by omega), (hS.2.2 i hi).1, (hS.2.2 i hi).2.1, d_mskill (hk i hi).1 (hk i hi).2]
theorem m_season (st : (Nat → Int32) × Int32) (hS : d_MS S n K F st.1 lw) (hn : n ≤ 8) (hk : d_KF n K F) (p1 x3 x4 : Int32) : ∃ S', iter (f11_seeded_L37 ma p1 x3 x4) FU (Int32.ofInt 0, (d_mS (d_mz Z ma hi th po ba en lt lp st.2) ma S, nx)) = some (d_mS (d_mz Z ma hi th po ba en lt lp (d_sn K F n st n).2) ma S', nx) ∧ d_MS S' n K F (d_sn K F n st n).1 lw := by
  have skl : ∀ i, i < n → 1 ≤ d_sk K F i ∧ d_sk K F i ≤ 20 := fun i hil => d_skl (hk i hil).1 (hk i hil).2
  obtain ⟨r, h1, S', rfl, h2⟩ := d_it (step := f11_seeded_L37 ma p1 x3 x4) (fun i w => ∃ S', w = (Int32.ofNat i, ((d_mS (d_mz Z ma hi th po ba en lt lp (d_sn K F n st i).2) ma S', nx) : HM)) ∧ d_MS S' n K F (d_sn K F n st i).1 lw) (fun r => ∃ S', r = ((d_mS (d_mz Z ma hi th po ba en lt lp (d_sn K F n st n).2) ma S', nx) : HM) ∧ d_MS S' n K F (d_sn K F n st n).1 lw) n (by
      rintro i w hil ⟨S', rfl, hS'⟩
      unfold f11_seeded_L37
      simp only [m_f0 (d_mz_Z _), obd, orf, m_ld0, hS'.1, d_lef hil (by omega), if_false, d_su]
      obtain ⟨r, g1, S2, rfl, g2⟩ := d_it (step := f11_seeded_L54 ma p1 x3 x4 (Int32.ofNat i)) (fun j w => ∃ S', w = (Int32.ofNat j, ((d_mS (d_mz Z ma hi th po ba en lt lp (d_sr K F i (d_sn K F n st i) (j - (i + 1))).2) ma S', nx) : HM)) ∧ i + 1 ≤ j ∧ d_MS S' n K F (d_sr K F i (d_sn K F n st i) (j - (i + 1))).1 lw) (fun r => ∃ S', r = ((d_mS (d_mz Z ma hi th po ba en lt lp (d_sn K F n st (i + 1)).2) ma S', nx) : HM) ∧ d_MS S' n K F (d_sn K F n st (i + 1)).1 lw) n (by
          rintro j w hj ⟨S', rfl, hij, hS'⟩
          have s1 := skl i hil
          have s2 := skl j hj
          unfold f11_seeded_L54
          simp only [m_f0 (d_mz_Z _), obd, orf, m_ld0, hS'.1, d_lef hj (by omega), if_false, m_c (d_mz_Z _), m_skill (d_mz_Z _) hS' hn hk hil, m_skill (d_mz_Z _) hS' hn hk hj, d_ad, m_drawn (show 1 ≤ d_sk K F i + d_sk K F j by omega) (show d_sk K F i + d_sk K F j < 1000 by omega), d_su]
          have e := d_sr_s K F hij (d_sn K F n st i)
          unfold d_sp at e
          by_cases c : Int32.ofNat (d_sk K F i) ≤ d_dr (d_sk K F i + d_sk K F j) (d_nz (d_sr K F i (d_sn K F n st i) (j - (i + 1))).2)
          · obtain ⟨S3, q1, q2⟩ := m_beats (nx := nx) (d_mz_Z (Z := Z) (ma := ma) (hi := hi) (th := th) (po := po) (ba := ba) (en := en) (lt := lt) (lp := lp) (d_nz (d_sr K F i (d_sn K F n st i) (j - (i + 1))).2)) hS' hn hj hil
            rw [if_pos c, q1]
            rw [if_pos c] at e
            refine Or.inl ⟨_, rfl, S3, ?_, by omega, ?_⟩
            · rw [e]
            · rw [e]; exact q2
          · obtain ⟨S3, q1, q2⟩ := m_beats (nx := nx) (d_mz_Z (Z := Z) (ma := ma) (hi := hi) (th := th) (po := po) (ba := ba) (en := en) (lt := lt) (lp := lp) (d_nz (d_sr K F i (d_sn K F n st i) (j - (i + 1))).2)) hS' hn hil hj
            rw [if_neg c, q1]
            rw [if_neg c] at e
            refine Or.inl ⟨_, rfl, S3, ?_, by omega, ?_⟩
            · rw [e]
            · rw [e]; exact q2) (by
          rintro w ⟨S', rfl, hij, hS'⟩
          unfold f11_seeded_L54
          simp only [m_f0 (d_mz_Z _), obd, orf, m_ld0, hS'.1, d_let, if_true]
          exact ⟨_, rfl, S', rfl, hS'⟩) FU (i + 1) (Int32.ofNat (i + 1), ((d_mS (d_mz Z ma hi th po ba en lt lp (d_sn K F n st i).2) ma S', nx) : HM)) (by omega) (by unfold FU; omega) ⟨S', by rw [show i + 1 - (i + 1) = 0 by omega]; rfl, by omega, by rw [show i + 1 - (i + 1) = 0 by omega]; exact hS'⟩
      rw [g1]
      exact Or.inl ⟨_, rfl, S2, rfl, g2⟩) (by
      rintro w ⟨S', rfl, hS'⟩
      unfold f11_seeded_L37
      simp only [m_f0 (d_mz_Z _), obd, orf, m_ld0, hS'.1, d_let, if_true]
      exact ⟨_, rfl, S', rfl, hS'⟩) FU 0 (Int32.ofInt 0, ((d_mS (d_mz Z ma hi th po ba en lt lp st.2) ma S, nx) : HM)) (by omega) (by unfold FU; omega) ⟨S, rfl, hS⟩
  exact ⟨S', h1, h2⟩
end MSEED
theorem d_R_all {a ma nx nx' : Nat} {X X' M M' : Nat → Option HO} {S' : Nat → Int32} (h : d_R a ma X M nx) (hn : nx ≤ nx') (hX : ∀ q, q < nx → ¬ (a + 5 ≤ q ∧ q ≤ a + 7) → q ≠ a + 13 → X' q = X q) (hD : ∃ P K F n lw B, d_LG a nx' X' (a + 5) P K F n lw B) (hT : ∃ t, X' (a + 13) = d_A 8 t) (hM : ∀ k, k = 2 ∨ k = 3 ∨ (5 ≤ k ∧ k ≤ 11) → M' (ma + k) = M (ma + k)) (hO : ∀ hi th po ba en lt lp sd, d_MO M ma hi th po ba en lt lp sd → ∃ th po ba en lt lp sd, d_MO M' ma hi th po ba en lt lp sd) (h1 : M' (ma + 1) = d_A 26 S') (hS : ∀ S n K F B lw, M (ma + 1) = d_A 26 S → n ≤ 8 → d_MS S n K F B lw → d_MS S' n K F B lw) (h4 : ∃ T, M' (ma + 4) = d_A 26 T) : d_R a ma X' M' nx' := by
  have h0 := h
  obtain ⟨hi, b1, b2, b3, b4, b5, ⟨-, -, -, c2, -, c4⟩, b7⟩ := h0
  refine d_R_mind h hn hX (fun k hk => hM k (by omega)) hO (fun S n K F B lw g1 g2 g3 => ⟨S', h1, hS S n K F B lw g1 g2 g3⟩) hD hT ⟨?_, h4, ?_⟩
  · obtain ⟨D, q⟩ := c2; exact ⟨D, (hM 3 (by omega)).trans q⟩
  · obtain ⟨D, q⟩ := c4; exact ⟨D, (hM 11 (by omega)).trans q⟩
theorem d_12 (p : Int32) {c : Int} (c32 : Int32) (hc : c32.toInt = c) : (p < Int32.ofInt 1 ↔ p.toInt < 1) ∧ (p ≤ c32 ↔ p.toInt ≤ c) := by
  constructor
  · rw [Int32.lt_iff_toInt_lt, show (Int32.ofInt 1).toInt = 1 by decide]
  · rw [Int32.le_iff_toInt_le, hc]
theorem d_pn {p : Int32} {m : Nat} (h0 : 0 ≤ p.toInt) (h1 : p.toInt ≤ m) : ∃ i, i ≤ m ∧ p = Int32.ofNat i ∧ p.toInt = i := by
  refine ⟨p.toInt.toNat, by omega, ?_, by omega⟩
  rw [← Int32.toInt_inj, d_tn (by have := Int32.toInt_lt p; omega)]
  omega
theorem sD_seeded (a ma : Nat) : S_seeded (d_R a ma) a ma := by
  intro X M nx p1 p2 hR
  have hR0 := hR
  obtain ⟨hi, hX, ha, ⟨th, po, ba, en, lt, lp, sd, hM⟩, ⟨P, K, F, n, lw, B, S, G, hG, hS0, hS⟩, -, ⟨⟨P', K', F', n', lw', B', G'⟩, ⟨tt, htt⟩, -, -, ⟨T0, hT0⟩, -⟩, -⟩ := hR0
  have r1 := (d_12 p1 (Int32.ofInt 1) (by decide : (Int32.ofInt 1).toInt = 1)).1
  have r2 := (d_12 p1 ((Int8.ofInt 30).toInt32) (by decide : ((Int8.ofInt 30).toInt32).toInt = 30)).2
  have ii : f11_isIn p1.toInt64 (Int64.ofNat 1) 30 = some (if 1 ≤ p1.toInt ∧ p1.toInt ≤ 30 then 1 else 0) := by
    rw [isIn_e, Int32.toInt_toInt64, show (Int64.ofNat 1).toInt = 1 by decide, show (30 : Int64).toInt = 30 by decide]
  by_cases hp : 1 ≤ p1.toInt ∧ p1.toInt ≤ 30
  · obtain ⟨m, hm, e, em⟩ := d_pn (p := p1) (m := 30) (by omega) (by omega)
    have h8 : n ≤ 8 := G.1.2.2
    obtain ⟨X1, B1, k1, k2, k3, k4⟩ := x_become (nx := nx) (ad := a + 5) (bd := a + 2) (by omega) (fun k hk => by rw [Nat.add_assoc]; exact d_nok (by omega) (by omega)) G' G
    have hX1 : d_CX X1 a hi := (k4 a (by omega) (by omega) (by omega)).trans hX
    have hXq : ∀ B, d_CX (d_cB X1 (a + 5) B) a hi := fun B => (d_cB_ne (by omega)).trans hX1
    have T1 : d_TB n B1 := d_TB_c (fun i hi => (k2 i (by omega)).symm) hG.1
    have L := k3.1
    let fs : Nat → ((Nat → Int32) × Int32) × Nat := d_ss K F n lw (B1, p2)
    have fsT : ∀ k, d_TB n (fs k).1.1 := fun k => d_ss_TB h8 (B1, p2) T1 k
    have x1 : iter (f10_seeded_L32 a p1) FU (p2, Int32.ofInt 0, Int32.ofInt 0, ((d_cB X1 (a + 5) B1, nx) : HM)) = some (Int32.ofNat (fs m).2, (d_cB X1 (a + 5) (fs m).1.1, nx)) := by
      refine d_for (fun k => ((fs k).1.2, Int32.ofNat (fs k).2, Int32.ofNat k, ((d_cB X1 (a + 5) (fs k).1.1, nx) : HM))) _ m 0 (by omega) (by omega) ?_ ?_
      · intro k _ hk
        have TT : d_TB n (d_sn K F n (fs k).1 n).1 := fsT (k + 1)
        unfold f10_seeded_L32
        simp only [e, d_lef hk (by omega), if_false, c_draft (hXq _), obd, orf, x_c L, x_season L, x_lawful L TT, d_i0, d_su]
        show _ = some (Sum.inl ((d_sn K F n (fs k).1 n).2, Int32.ofNat ((fs k).2 + (d_lw n K F (d_sn K F n (fs k).1 n).1 lw).toNat), Int32.ofNat (k + 1), ((d_cB X1 (a + 5) (d_sn K F n (fs k).1 n).1, nx) : HM)))
        cases d_lw n K F (d_sn K F n (fs k).1 n).1 lw <;> rfl
      · unfold f10_seeded_L32
        simp only [e, d_let, if_true]
    rw [d_cB_e k3.2.1] at x1
    -- the model
    let Zb : Nat → Option HO := va_up M (ma + 4) (d_A 26 (d_ov S T0))
    let ZZ : Int32 → Nat → Option HO := fun z => d_mz Zb ma hi th po ba en lt lp z
    have hS1 : d_MS S n K F B1 lw := d_MS_cB (fun i hi => ⟨rfl, rfl, (k2 i (by omega)).symm⟩) hS
    have eZ : va_up Zb ma (some (.inl (11, [.ref (ma + 1), .ref (ma + 2), .ref (ma + 3), .ref (ma + 4), .ref (ma + 5), .ref (ma + 6), .ref (ma + 7), .ref (ma + 8), .ref (ma + 9), .ref (ma + 10), .int hi, .int th, .int po, .int ba, .int en, .ref (ma + 11), .int lt, .int lp, .int p2]))) = d_mS (ZZ p2) ma S := (d_mS_e ((va_up_ne _ _ (by omega)).trans ((va_up_ne _ _ (by omega)).trans hS0))).symm
    obtain ⟨rm, y1, S', rfl, y2⟩ := d_it (step := f11_seeded_L28 ma p1) (fun k w => ∃ S', w = (Int32.ofNat (fs k).2, Int32.ofNat k, ((d_mS (ZZ (fs k).1.2) ma S', nx) : HM)) ∧ d_MS S' n K F (fs k).1.1 lw) (fun r => ∃ S', r = (Int32.ofNat (fs m).2, ((d_mS (ZZ (fs m).1.2) ma S', nx) : HM)) ∧ d_MS S' n K F (fs m).1.1 lw) m (by
        rintro k w hk ⟨S', rfl, hS'⟩
        obtain ⟨S2, q1, q2⟩ := m_season (Z := Zb) (ma := ma) (nx := nx) (hi := hi) (th := th) (po := po) (ba := ba) (en := en) (lt := lt) (lp := lp) (fs k).1 hS' h8 (d_LX_KF G.1) p1 (Int32.ofNat (fs k).2) (Int32.ofNat k)
        have TT : d_TB n (d_sn K F n (fs k).1 n).1 := fsT (k + 1)
        have ml := m_lawful (nx := nx) (d_mz_Z (Z := Zb) (ma := ma) (hi := hi) (th := th) (po := po) (ba := ba) (en := en) (lt := lt) (lp := lp) (d_sn K F n (fs k).1 n).2) q2 h8 (d_LX_KF G.1) TT hG.2.2
        unfold f11_seeded_L28
        simp only [e, d_lef hk (by omega), if_false]
        rw [show iter (f11_seeded_L37 ma (Int32.ofNat m) (Int32.ofNat (fs k).2) (Int32.ofNat k)) FU (Int32.ofInt 0, ((d_mS (ZZ (fs k).1.2) ma S', nx) : HM)) = _ from e ▸ q1]
        simp only [obd, m_c (d_mz_Z _), ml, d_i0, d_su, d_su0]
        refine Or.inl ⟨(Int32.ofNat ((fs k).2 + (d_lw n K F (d_sn K F n (fs k).1 n).1 lw).toNat), Int32.ofNat (k + 1), ((d_mS (ZZ (d_sn K F n (fs k).1 n).2) ma S2, nx) : HM)), ?_, S2, rfl, q2⟩
        cases d_lw n K F (d_sn K F n (fs k).1 n).1 lw <;> rfl) (by
        rintro w ⟨S', rfl, hS'⟩
        unfold f11_seeded_L28
        simp only [e, d_let, if_true]
        exact ⟨_, rfl, S', rfl, hS'⟩) FU 0 (Int32.ofInt 0, Int32.ofInt 0, ((d_mS (ZZ p2) ma S, nx) : HM)) (by omega) (by unfold FU; omega) ⟨S, rfl, hS1⟩
    refine ⟨Int32.ofNat (fs m).2, d_cB X1 (a + 5) (fs m).1.1, nx, d_mS (ZZ (fs m).1.2) ma (d_ov (d_ov S T0) S'), nx, ?_, ?_, ?_⟩
    · unfold f10_seeded
      rw [if_neg (fun q => by rw [r1] at q; omega), if_pos (r2.mpr hp.2)]
      simp only [c_now hX, c_draft hX, obd, orf, d_ocl (d_hcls (σ := (X, nx)) G'.1.1.1), k1, x1]
    · unfold f11_seeded
      rw [ii, if_pos hp]
      simp only [obd, if_neg (show ¬ (1 : Int32) = 0 by decide), n_c hM, m_begins hM hS0 hT0]
      have hp18 : hput (va_up M (ma + 4) (d_A 26 (d_ov S T0)), nx) [11] 18 ma (.int p2) = some (d_mS (ZZ p2) ma S, nx) := by
        rw [← eZ]
        unfold hput hobj
        simp only [show va_up M (ma + 4) (d_A 26 (d_ov S T0)) ma = _ from (va_up_ne _ _ (by omega)).trans hM]
        rfl
      have en := m_ends (nx := nx) (S := S') (T := d_ov S T0) (d_mz_MO (Z := Zb) (ma := ma) (hi := hi) (th := th) (po := po) (ba := ba) (en := en) (lt := lt) (lp := lp) (fs m).1.2) ((va_up_ne _ _ (by omega)).trans (va_up_self _ _ _))
      have oc : ∀ {α : Type} (x : Option α), ocl (d_mS (ZZ (fs m).1.2) ma S', nx) ma 11 x = x := fun x => m_c (d_mz_Z _) x
      have en' : f11_ends ((d_mS (ZZ (fs m).1.2) ma S', nx) : HM) ma = some (d_mS (ZZ (fs m).1.2) ma (d_ov (d_ov S T0) S'), nx) := en
      simp only [hp18, y1, oc, en']
    · refine d_R_all hR (Nat.le_refl _) (fun q _ h1 _ => (d_cB_ne (by omega)).trans (k4 q (by omega) (by omega) (by omega))) ⟨_, _, _, _, _, _, d_LG_cB L k3.2.2⟩ ⟨tt, (d_cB_ne (by omega)).trans ((k4 _ (by omega) (by omega) (by omega)).trans htt)⟩ (fun k hk => (d_mS_ne (by omega)).trans ((d_mz_ne (by omega) _).trans (va_up_ne _ _ (by omega)))) ?_ d_mS_at (d_S_keep h8 hS0 hS (d_MS_c h8 (fun i hi => (d_ov_i i hi).trans (d_ov_i i hi)) hS)) ⟨_, (d_mS_ne (by omega)).trans ((d_mz_ne (by omega) _).trans (va_up_self _ _ _))⟩
      intro hi2 th2 po2 ba2 en2 lt2 lp2 sd2 q
      have q0 : hi2 = hi := by
        have q1 : some _ = some _ := q.symm.trans hM
        simp only [Option.some.injEq, Sum.inl.injEq, Prod.mk.injEq, List.cons.injEq, Value.int.injEq] at q1
        exact q1.2.2.2.2.2.2.2.2.2.2.2.1
      subst q0
      exact ⟨th, po, ba, en, lt, lp, (fs m).1.2, d_mS_0.trans (d_mz_MO _)⟩
  · refine ⟨Int32.ofInt (-1), X, nx, M, nx, ?_, ?_, hR⟩
    · unfold f10_seeded
      by_cases h1 : p1 < Int32.ofInt 1
      · rw [if_pos h1]
      · rw [if_neg h1, if_neg]
        rw [r1] at h1
        rw [r2]
        omega
    · unfold f11_seeded
      rw [ii, if_neg hp]
      simp only [obd, if_true]
