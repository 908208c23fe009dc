/-! PURE: calls that only read the league: lawful, masters, one, cup, count, orphans -/
theorem d_readA {α : Type} (a ma : Nat) (fx fm : HM → Option α) (h : ∀ (X M : Nat → Option HO) (nx : Nat) (hi : Int32) (P K F : Nat → Nat) (n : Nat) (lw : Int32) (B S : Nat → Int32), d_CX (d_cB X (a + 2) B) a hi → d_LX X (a + 2) P K F n lw → d_good n B lw → d_MZ M ma → d_MS S n K F B lw → ∃ r, fx (d_cB X (a + 2) B, nx) = some r ∧ ∀ k, fm (d_mS M ma S, k) = some r) (X M : Nat → Option HO) (n : Nat) (hR : d_R a ma X M n) :
    ∃ (r : α) (X' : Nat → Option HO) (n' : Nat) (M' : Nat → Option HO) (n'' : Nat), obd (fx (X, n)) (fun r => some (r, ((X, n) : HM))) = some (r, (X', n')) ∧ obd (fm (M, n')) (fun r => some (r, ((M, n') : HM))) = some (r, (M', n'')) ∧ d_R a ma X' M' n'' := by
  have hR0 := hR
  obtain ⟨hi, hX, -, ⟨th, po, ba, en, lt, lp, sd, hM⟩, ⟨P, K, F, n0, lw, B, S, ⟨L, hB, -⟩, hG, hS0, hS⟩, -⟩ := hR0
  obtain ⟨r, h1, h2⟩ := h X M n hi P K F n0 lw B S (by rw [d_cB_e hB]; exact hX) L hG (d_MO_Z hM) hS
  rw [d_cB_e hB] at h1
  rw [d_mS_e hS0] at h2
  exact ps_step (f := fx (X, n)) (g := fun k => fm (M, k)) h1 h2 hR
theorem sD_lawful (a ma : Nat) : S_lawful (d_R a ma) a ma := fun X M n hR => d_readA a ma (fun s => f10_lawful s a) (fun s => f11_lawful s ma) (by
  intro X M nx hi P K F n lw B S hX L G Z hS
  refine ⟨d_i (d_lw n K F B lw), ?_, fun k => ?_⟩
  · show f10_lawful _ _ = _
    unfold f10_lawful
    simp only [c_now hX, obd, orf, x_c L, x_lawful L G.1, d_i0]
    cases d_lw n K F B lw <;> rfl
  · show f11_lawful _ _ = _
    unfold f11_lawful
    simp only [m_c Z, obd, m_lawful Z hS (show n ≤ 8 by have := G.2.1; omega) (d_LX_KF L) G.1 G.2.2, d_i0]
    cases d_lw n K F B lw <;> rfl) X M n hR
theorem sD_masters (a ma : Nat) : S_masters (d_R a ma) a ma := fun X M n p1 p2 hR => d_readA a ma (fun s => f10_masters s a p1 p2) (fun s => f11_masters s ma p1 p2) (by
  intro X M nx hi P K F n lw B S hX L G Z hS
  have hn : n ≤ 8 := L.2.2
  by_cases h : d_two n p1 p2 = true
  · obtain ⟨i, j, h1, h2, h3, rfl, rfl⟩ := d_two_n h
    refine ⟨d_mk n (d_ms K F B i j), ?_, fun k => ?_⟩
    · show f10_masters _ _ _ _ = _
      unfold f10_masters
      simp only [c_now hX, obd, orf, x_c L, x_two L, h, d_i0, x_counting L (fun i hi => d_TB_sm G.1 hn hi), x_masters L G.1 h1 h2]
      rfl
    · show f11_masters _ _ _ _ = _
      unfold f11_masters
      simp only [m_c Z, m_two Z hS hn, h, obd, d_i0, d_one_e (show i < 32 by omega), d_one_e (show j < 32 by omega), m_masters Z hS hn (d_LX_KF L) G.1 h1 h2]
      rfl
  · rw [Bool.not_eq_true] at h
    refine ⟨Int32.ofInt (-1), ?_, fun k => ?_⟩
    · show f10_masters _ _ _ _ = _
      unfold f10_masters
      simp only [c_now hX, obd, orf, x_c L, x_two L, h, d_i0, if_true]
    · show f11_masters _ _ _ _ = _
      unfold f11_masters
      simp only [m_c Z, m_two Z hS hn, h, obd, d_i0, if_true]) X M n hR
theorem sD_one (a ma : Nat) : S_one (d_R a ma) a ma := fun X M n p1 p2 hR => d_readA a ma (fun s => f10_one s a p1 p2) (fun s => f11_one s ma p1 p2) (by
  intro X M nx hi P K F n lw B S hX L G Z hS
  have hn : n ≤ 8 := L.2.2
  by_cases h : d_is n p1 = true
  · obtain ⟨i, h1, rfl⟩ := d_is_n h
    have hk := d_LX_KF L i h1
    refine ⟨if p2 = 0 then Int32.ofNat (K i) else if p2 = 1 then Int32.ofNat (F i) else if p2 = 2 then Int32.ofNat (d_skill (K i) (F i)) else if p2 = 3 then B i else if p2 = 4 then d_i (d_co K F B i) else if p2 = 5 then Int32.ofNat (d_price (K i) (F i)) else Int32.ofInt (-1), ?_, fun k => ?_⟩
    · show f10_one _ _ _ _ = _
      unfold f10_one
      simp only [c_now hX, obd, orf, onl, x_c L, x_has L, h, d_i0, x_f0 L, x_f1 L, x_p L (show i < 8 by omega), d_vkind (x_pe L (show i < 8 by omega)), d_pe_f (x_pe L (show i < 8 by omega)), d_vskill (x_pe L (show i < 8 by omega)), d_vcost (x_pe L (show i < 8 by omega)), x_ld (show i < 8 by omega), x_counting L (fun i hi => d_TB_sm G.1 hn hi), d_bit _ (show i < 32 by omega), d_mkb _ n (show n ≤ 31 by omega) i, h1, decide_true, Bool.true_and]
      repeat' split
      all_goals first | rfl | contradiction | simp_all
    · show f11_one _ _ _ _ = _
      unfold f11_one
      simp only [m_c Z, m_isOne Z hS hn, h, obd, d_i0, m_kind Z (show i < 8 by omega), m_figure Z (show i < 8 by omega), m_beaten Z (show i < 8 by omega), (hS.2.2 i h1).1, (hS.2.2 i h1).2.1, (hS.2.2 i h1).2.2, m_counts Z hS hn (d_LX_KF L) G.1 h1, d_mprice hk.1 hk.2]
      have hsk : f11_skill (d_mS M ma S, k) ma (Int32.ofNat i) = some (Int32.ofNat (d_skill (K i) (F i))) := by
        unfold f11_skill
        simp only [m_c Z, obd, m_kind Z (show i < 8 by omega), m_figure Z (show i < 8 by omega), (hS.2.2 i h1).1, (hS.2.2 i h1).2.1, d_mskill hk.1 hk.2]
      simp only [hsk]
      cases d_co K F B i <;> (repeat' split) <;> first | rfl | contradiction | simp_all
  · rw [Bool.not_eq_true] at h
    refine ⟨Int32.ofInt (-1), ?_, fun k => ?_⟩
    · show f10_one _ _ _ _ = _
      unfold f10_one
      simp only [c_now hX, obd, orf, x_c L, x_has L, h, d_i0, if_true]
    · show f11_one _ _ _ _ = _
      unfold f11_one
      simp only [m_c Z, m_isOne Z hS hn, h, obd, d_i0, if_true]) X M n hR
/-! the cup -/
def d_bst (B : Nat → Int32) : Nat → Option Nat
  | 0 => none
  | i + 1 => match d_bst B i with
    | none => some i
    | some q => if d_pc (B i) ≤ d_pc (B q) then some q else some i
theorem d_bst_lt (B : Nat → Int32) : ∀ i q, d_bst B i = some q → q < i
  | 0, q, h => by cases h
  | i + 1, q, h => by
    unfold d_bst at h
    cases e : d_bst B i with
    | none => rw [e] at h; cases h; omega
    | some p =>
      have := d_bst_lt B i p e
      rw [e] at h
      simp only at h
      split at h <;> cases h <;> omega
def d_e1 (o : Option Nat) : Int32 := match o with
  | none => (Int8.ofInt (-4)).toInt32
  | some q => Int32.ofNat q
def d_e2 (B : Nat → Int32) (o : Option Nat) : Int32 := match o with
  | none => Int32.ofInt (-1)
  | some q => Int32.ofNat (d_pc (B q))
theorem sD_cup (a ma : Nat) : S_cup (d_R a ma) a ma := fun X M n hR => d_readA a ma (fun s => f10_cup s a) (fun s => f11_cup s ma) (by
  intro X M nx hi P K F n lw B S hX L G Z hS
  have hn : n ≤ 8 := L.2.2
  refine ⟨d_e1 (d_bst B n), ?_, fun k => ?_⟩
  · show f10_cup _ _ = _
    unfold f10_cup
    rw [show iter (f10_cup_L7 (d_cB X (a + 2) B, nx) a) FU ((Int8.ofInt (-4)).toInt32, Int32.ofInt (-1), Int32.ofInt 0) = some (d_e1 (d_bst B n)) from
      d_for (fun i => (d_e1 (d_bst B i), d_e2 B (d_bst B i), Int32.ofNat i)) _ n 0 (by omega) (by omega) ?_ ?_]
    · rfl
    · intro i _ hi
      unfold f10_cup_L7
      simp only [c_now hX, obd, orf, x_n L, x_f1 L, x_ld (show i < 8 by omega), d_lef hi (by omega), if_false, d_pcx (d_TB_sm G.1 hn hi), d_su]
      have p8 := d_pc8 (B i)
      conv => rhs; unfold d_bst
      cases e : d_bst B i with
      | none =>
        show (if Int32.ofNat (d_pc (B i)) ≤ Int32.ofInt (-1) then _ else _) = _
        rw [if_neg (by rw [Int32.le_iff_toInt_le, d_tn (by omega), show (Int32.ofInt (-1)).toInt = -1 by decide]; omega)]
        rfl
      | some q =>
        have p9 := d_pc8 (B q)
        show (if Int32.ofNat (d_pc (B i)) ≤ Int32.ofNat (d_pc (B q)) then _ else _) = _
        simp only [d_le (show d_pc (B i) < 2147483648 by omega) (show d_pc (B q) < 2147483648 by omega)]
        by_cases c : d_pc (B i) ≤ d_pc (B q)
        · rw [if_pos c, if_pos c]
        · rw [if_neg c, if_neg c]; rfl
    · unfold f10_cup_L7
      simp only [c_now hX, obd, orf, x_n L, d_let, if_true]
  · show f11_cup _ _ = _
    unfold f11_cup
    rw [show iter (f11_cup_L5 (d_mS M ma S, k) ma) FU ((Int8.ofInt (-4)).toInt32, Int32.ofInt 0) = some (d_e1 (d_bst B n)) from
      d_for (fun i => (d_e1 (d_bst B i), Int32.ofNat i)) _ n 0 (by omega) (by omega) ?_ ?_]
    · rfl
    · intro i _ hi
      unfold f11_cup_L5
      simp only [m_f0 Z, obd, orf, m_ld0, hS.1, d_lef hi (by omega), if_false, m_c Z, m_beaten Z (show i < 8 by omega), (hS.2.2 i hi).2.2, d_pcm (d_TB_sm G.1 hn hi), d_su]
      have p8 := d_pc8 (B i)
      conv => rhs; unfold d_bst
      cases e : d_bst B i with
      | none => rfl
      | some q =>
        have hq := d_bst_lt B i q e
        have p9 := d_pc8 (B q)
        show (if Int32.ofNat q < 0 then _ else _) = _
        rw [if_neg (by rw [Int32.lt_iff_toInt_lt, d_tn (by omega), show (0 : Int32).toInt = 0 by decide]; omega)]
        simp only [d_e1, m_beaten Z (show q < 8 by omega), (hS.2.2 q (by omega)).2.2, d_pcm (d_TB_sm G.1 hn (show q < n by omega)), d_le (show d_pc (B i) < 2147483648 by omega) (show d_pc (B q) < 2147483648 by omega)]
        by_cases c : d_pc (B i) ≤ d_pc (B q)
        · rw [if_pos c, if_pos c]
        · rw [if_neg c, if_neg c]
    · unfold f11_cup_L5
      simp only [m_f0 Z, obd, orf, m_ld0, hS.1, d_let, if_true]) X M n hR
/-! sums -/
def d_sum : Nat → (Nat → Nat) → Nat
  | 0, _ => 0
  | m + 1, f => d_sum m f + f m
theorem d_sum_c {f g : Nat → Nat} : ∀ {m : Nat}, (∀ i, i < m → f i = g i) → d_sum m f = d_sum m g
  | 0, _ => rfl
  | m + 1, h => by
    show d_sum m f + f m = d_sum m g + g m
    rw [d_sum_c (fun i hi => h i (by omega)), h m (by omega)]
theorem d_sum_0 {f : Nat → Nat} : ∀ {m : Nat}, (∀ i, i < m → f i = 0) → d_sum m f = 0
  | 0, _ => rfl
  | m + 1, h => by
    show d_sum m f + f m = 0
    rw [d_sum_0 (fun i hi => h i (by omega)), h m (by omega)]
theorem d_pc_mk (f : Nat → Bool) {n : Nat} (hn : n ≤ 8) : d_pc (d_mk n f) = d_sum n (fun p => (f p).toNat) := by
  unfold d_pc
  simp only [d_mkb f n (by omega)]
  rcases (show n = 0 ∨ n = 1 ∨ n = 2 ∨ n = 3 ∨ n = 4 ∨ n = 5 ∨ n = 6 ∨ n = 7 ∨ n = 8 by omega) with rfl | rfl | rfl | rfl | rfl | rfl | rfl | rfl | rfl <;> simp [d_sum]
theorem d_mk_sm (f : Nat → Bool) {n : Nat} (hn : n ≤ 8) : d_sm (d_mk n f) := by
  intro j hj
  rw [d_mkb f n (by omega)]
  simp; omega
theorem d_ad (i j : Nat) : Int32.ofNat i + Int32.ofNat j = Int32.ofNat (i + j) := (Int32.ofNat_add i j).symm
theorem d_su0 (i : Nat) : Int32.ofNat i + Int32.ofInt 0 = Int32.ofNat i := d_ad i 0
theorem x_costs {X : Nat → Option HO} {ad n nx : Nat} {P K F : Nat → Nat} {lw : Int32} {B : Nat → Int32} (L : d_LX X ad P K F n lw) : f2_allCosts (d_cB X ad B, nx) ad = some (Int32.ofNat (d_sum n (fun p => d_price (K p) (F p)))) := by
  have hn := L.2.2
  unfold f2_allCosts
  rw [show iter (f2_allCosts_L4 (d_cB X ad B, nx) ad) FU (Int32.ofInt 0, Int32.ofInt 0) = some (Int32.ofNat (d_sum n (fun p => d_price (K p) (F p)))) from
    d_for (fun i => (Int32.ofNat (d_sum i (fun p => d_price (K p) (F p))), Int32.ofNat i)) _ n 0 (by omega) (by omega) ?_ ?_]
  · rfl
  · intro i _ hi
    unfold f2_allCosts_L4
    simp only [x_n L, obd, orf, x_f0 L, x_p L (show i < 8 by omega), d_vcost (x_pe L (show i < 8 by omega)), d_lef hi (by omega), if_false, d_su, d_ad]
    rfl
  · unfold f2_allCosts_L4
    simp only [x_n L, obd, d_let, if_true]
theorem sD_count (a ma : Nat) : S_count (d_R a ma) a ma := fun X M n p1 hR => d_readA a ma (fun s => f10_count s a p1) (fun s => f11_count s ma p1) (by
  intro X M nx hi P K F n lw B S hX L G Z hS
  have hn : n ≤ 8 := L.2.2
  refine ⟨if p1 = 0 then Int32.ofNat n else if p1 = 1 then lw else if p1 = 2 then Int32.ofNat (d_sum n (fun p => (d_co K F B p).toNat)) else if p1 = 3 then Int32.ofNat (d_sum n (fun p => d_price (K p) (F p))) else Int32.ofInt (-1), ?_, fun k => ?_⟩
  · show f10_count _ _ _ = _
    unfold f10_count
    simp only [c_now hX, obd, orf, x_n L, x_l L, x_c L, x_costs L, x_counting L (fun i hi => d_TB_sm G.1 hn hi), d_pcx (d_mk_sm _ hn), d_pc_mk _ hn]
    repeat' split
    all_goals first | rfl | contradiction
  · show f11_count _ _ _ = _
    unfold f11_count
    have c2 : iter (f11_count_L41 (d_mS M ma S, k) ma 2) FU (Int32.ofInt 0, Int32.ofInt 0) = some (Int32.ofNat (d_sum n (fun p => (d_co K F B p).toNat))) := by
      refine d_for (fun i => (Int32.ofNat (d_sum i (fun p => (d_co K F B p).toNat)), Int32.ofNat i)) _ n 0 (by omega) (by omega) ?_ ?_
      · intro i _ hi
        unfold f11_count_L41
        simp only [m_f0 Z, obd, orf, m_ld0, hS.1, d_lef hi (by omega), if_false, m_c Z, m_counts Z hS hn (d_LX_KF L) G.1 hi, d_su, d_su0, d_i0]
        rw [if_neg (by decide)]
        show _ = some (Sum.inl (Int32.ofNat (d_sum i (fun p => (d_co K F B p).toNat) + (d_co K F B i).toNat), _))
        cases d_co K F B i <;> rfl
      · unfold f11_count_L41
        simp only [m_f0 Z, obd, orf, m_ld0, hS.1, d_let, if_true]
    have c3 : iter (f11_count_L41 (d_mS M ma S, k) ma 3) FU (Int32.ofInt 0, Int32.ofInt 0) = some (Int32.ofNat (d_sum n (fun p => d_price (K p) (F p)))) := by
      refine d_for (fun i => (Int32.ofNat (d_sum i (fun p => d_price (K p) (F p))), Int32.ofNat i)) _ n 0 (by omega) (by omega) ?_ ?_
      · intro i _ hi
        have hk := d_LX_KF L i hi
        unfold f11_count_L41
        simp only [m_f0 Z, obd, orf, m_ld0, hS.1, d_lef hi (by omega), if_false, m_c Z, m_kind Z (show i < 8 by omega), m_figure Z (show i < 8 by omega), (hS.2.2 i hi).1, (hS.2.2 i hi).2.1, d_mprice hk.1 hk.2, d_su, d_ad]
        rw [if_pos (by decide)]
        rfl
      · unfold f11_count_L41
        simp only [m_f0 Z, obd, orf, m_ld0, hS.1, d_let, if_true]
    by_cases e0 : p1 = 0
    · subst e0
      simp only [if_true, m_f0 Z, obd, orf, show hald (d_mS M ma S, k) (ma + 1) 0 = some (S 0) from m_ld0, hS.1]
    · by_cases e1 : p1 = 1
      · subst e1
        simp only [if_true, m_f0 Z, obd, orf, show hald (d_mS M ma S, k) (ma + 1) 1 = some (S 1) from m_ld1, hS.2.1, if_neg e0]
      · by_cases e2 : p1 = 2
        · subst e2
          simp only [if_true, c2, obd, if_neg e0, if_neg e1]
        · by_cases e3 : p1 = 3
          · subst e3
            simp only [if_true, c3, obd, if_neg e0, if_neg e1, if_neg e2]
          · simp only [if_neg e0, if_neg e1, if_neg e2, if_neg e3]) X M n hR
