/-! PURE: who counts, masters, lawful -/
def d_co (K F : Nat → Nat) (B : Nat → Int32) (p : Nat) : Bool := d_cnt (K p) (F p) (d_pc (B p))
def d_ms (K F : Nat → Nat) (B : Nat → Int32) (i j p : Nat) : Bool := d_co K F B p && (d_b (B p) i && d_b (B p) j)
def d_or (n : Nat) (K F : Nat → Nat) (B : Nat → Int32) (i j : Nat) : Bool := decide (∀ p, p < n → d_ms K F B i j p = false)
def d_lw (n : Nat) (K F : Nat → Nat) (B : Nat → Int32) (lw : Int32) : Bool := if lw = 1 then decide (∀ i, i < n → d_or n K F B i i = false) else decide (∀ j, j < n → ∀ i, i < j → d_or n K F B i j = false)
def d_TB (n : Nat) (B : Nat → Int32) : Prop := (∀ i, i < n → ∀ j, n ≤ j → d_b (B i) j = false) ∧ (∀ i, i < n → d_b (B i) i = false) ∧ ∀ i j, i < n → j < n → i ≠ j → d_b (B j) i = !d_b (B i) j
theorem d_TB_sm {n : Nat} {B : Nat → Int32} (h : d_TB n B) (hn : n ≤ 8) {i : Nat} (hi : i < n) : d_sm (B i) := fun j hj => h.1 i hi j (by omega)
theorem d_or_comm (n : Nat) (K F : Nat → Nat) (B : Nat → Int32) (i j : Nat) : d_or n K F B i j = d_or n K F B j i := by
  unfold d_or d_ms
  congr 1
  apply propext
  constructor <;> (intro h p hp; have := h p hp; rw [← this]; cases d_b (B p) i <;> cases d_b (B p) j <;> rfl)
theorem d_lef {i m : Nat} (h : i < m) (hm : m < 900000) : (Int32.ofNat m ≤ Int32.ofNat i) = False := by
  rw [d_le (by omega) (by omega)]; simp; omega
theorem d_let (m : Nat) : (Int32.ofNat m ≤ Int32.ofNat m) = True := by simp
theorem d_mk_or {n : Nat} (hn : n ≤ 8) (K F : Nat → Nat) (B : Nat → Int32) (i j : Nat) : (d_mk n (d_ms K F B i j) = 0) = (d_or n K F B i j = true) := by
  rw [d_mk0 _ (by omega)]
  unfold d_or
  simp
section CLASS_LAWFUL
variable {X : Nat → Option HO} {ad n nx : Nat} {P K F : Nat → Nat} {lw : Int32} {B : Nat → Int32}
theorem x_counting (L : d_LX X ad P K F n lw) (hs : ∀ i, i < n → d_sm (B i)) : f2_counting (d_cB X ad B, nx) ad = some (d_mk n (d_co K F B)) := by
  have hn := L.2.2
  unfold f2_counting
  rw [show iter (f2_counting_L4 (d_cB X ad B, nx) ad) FU (Int32.ofInt 0, Int32.ofInt 0) = some (d_mk n (d_co K F B)) from
    d_for (fun i => (d_mk i (d_co K F B), Int32.ofNat i)) _ n 0 (by omega) (by omega) ?_ ?_]
  · rfl
  · intro i _ hi
    unfold f2_counting_L4
    simp only [x_n L, obd, orf, x_f0 L, x_f1 L, x_p L (show i < 8 by omega), x_ld (show i < 8 by omega), d_pcx (hs i hi), d_vcnt (x_pe L (show i < 8 by omega)) (d_pc8 _), d_i0, d_lef hi (by omega), if_false, d_one_e (show i < 32 by omega), d_su]
    show (if d_co K F B i = false then _ else _) = some (Sum.inl ((if d_co K F B i = true then d_mk i (d_co K F B) ||| d_one i else d_mk i (d_co K F B)), _))
    cases d_co K F B i <;> simp
  · unfold f2_counting_L4
    simp only [x_n L, obd, d_let, if_true]
theorem d_mast_eq {n : Nat} {K F : Nat → Nat} {B : Nat → Int32} (hn : n ≤ 8) (T : d_TB n B) {i j : Nat} (hi : i < n) (hj : j < n) : d_mk n (d_co K F B) &&& ((((B i ||| B j) ||| d_one i) ||| d_one j) ^^^ Int32.ofInt (-1)) = d_mk n (d_ms K F B i j) := by
  apply d_bx
  intro p hp
  rw [d_band, d_bnot _ hp, d_bor, d_bor, d_bor, d_bone (by omega), d_bone (by omega), d_mkb _ n (by omega), d_mkb _ n (by omega)]
  unfold d_ms
  by_cases h : p < n
  · have e1 : p = i ∧ d_b (B p) i = false ∨ p ≠ i ∧ d_b (B p) i = !d_b (B i) p := by
      by_cases e : p = i
      · exact Or.inl ⟨e, by rw [e]; exact T.2.1 i hi⟩
      · exact Or.inr ⟨e, T.2.2 i p hi h (fun q => e q.symm)⟩
    have e2 : p = j ∧ d_b (B p) j = false ∨ p ≠ j ∧ d_b (B p) j = !d_b (B j) p := by
      by_cases e : p = j
      · exact Or.inl ⟨e, by rw [e]; exact T.2.1 j hj⟩
      · exact Or.inr ⟨e, T.2.2 j p hj h (fun q => e q.symm)⟩
    rcases e1 with ⟨a1, a2⟩ | ⟨a1, a2⟩ <;> rcases e2 with ⟨a3, a4⟩ | ⟨a3, a4⟩ <;> rw [a2, a4] <;> simp [h, a1, a3]
  · simp [h]
theorem x_masters (L : d_LX X ad P K F n lw) (T : d_TB n B) {i j : Nat} (hi : i < n) (hj : j < n) : f2_mastersAmong (d_cB X ad B, nx) ad (d_mk n (d_co K F B)) (Int32.ofNat i) (Int32.ofNat j) = some (d_mk n (d_ms K F B i j)) := by
  have hn := L.2.2
  unfold f2_mastersAmong
  simp only [x_f1 L, obd, orf, x_ld (show i < 8 by omega), x_ld (show j < 8 by omega), d_one_e (show i < 32 by omega), d_one_e (show j < 32 by omega), d_mast_eq hn T hi hj]
theorem x_each (L : d_LX X ad P K F n lw) (T : d_TB n B) : f2_eachHasMaster (d_cB X ad B, nx) ad = some (d_i (decide (∀ i, i < n → d_or n K F B i i = false))) := by
  have hn := L.2.2
  unfold f2_eachHasMaster
  simp only [x_c L, x_counting L (fun i hi => d_TB_sm T hn hi), obd]
  obtain ⟨r, h1, h2⟩ := d_it (step := f2_eachHasMaster_L7 (d_cB X ad B, nx) ad (d_mk n (d_co K F B))) (fun k w => w = Int32.ofNat k ∧ ∀ i, i < k → d_or n K F B i i = false) (fun r => (r = .inr () ∧ ∀ i, i < n → d_or n K F B i i = false) ∨ (r = .inl (Int32.ofInt 0) ∧ ¬ ∀ i, i < n → d_or n K F B i i = false)) n (by
      rintro k w hk ⟨rfl, h⟩
      unfold f2_eachHasMaster_L7
      simp only [x_n L, x_c L, obd, d_lef hk (by omega), if_false, x_masters L T hk hk, d_mk_or hn, d_su]
      cases e : d_or n K F B k k with
      | true => exact Or.inr ⟨_, rfl, Or.inr ⟨rfl, fun q => by rw [q k hk] at e; cases e⟩⟩
      | false => exact Or.inl ⟨_, rfl, rfl, fun i hi => by
          by_cases q : i = k
          · rw [q]; exact e
          · exact h i (by omega)⟩) (by
      rintro w ⟨rfl, h⟩
      unfold f2_eachHasMaster_L7
      simp only [x_n L, obd, d_let, if_true]
      exact ⟨_, rfl, Or.inl ⟨rfl, h⟩⟩) FU 0 (Int32.ofInt 0) (by omega) (by unfold FU; omega) ⟨rfl, fun i hi => by omega⟩
  rw [h1]
  rcases h2 with ⟨rfl, h⟩ | ⟨rfl, h⟩
  · rw [decide_eq_true h]; rfl
  · rw [decide_eq_false h]; rfl
/-- the first pair of orphans, or -4 -/
def d_FO (n : Nat) (K F : Nat → Nat) (B : Nat → Int32) (o : Int32) : Prop := (o = Int32.ofInt (-4) ∧ ∀ i j, i < j → j < n → d_or n K F B i j = false) ∨ ∃ i j, i < j ∧ j < n ∧ d_or n K F B i j = true ∧ (∀ i' j', i' < j' → j' < n → (i' < i ∨ i' = i ∧ j' < j) → d_or n K F B i' j' = false) ∧ o = Int32.ofNat (10 * i + j)
theorem d_FO_u {n : Nat} {K F : Nat → Nat} {B : Nat → Int32} {o o' : Int32} (h : d_FO n K F B o) (h' : d_FO n K F B o') : o = o' := by
  rcases h with ⟨e, h⟩ | ⟨i, j, h1, h2, h3, h4, e⟩ <;> rcases h' with ⟨e', h'⟩ | ⟨i', j', h1', h2', h3', h4', e'⟩
  · rw [e, e']
  · rw [h i' j' h1' h2'] at h3'; cases h3'
  · rw [h' i j h1 h2] at h3; cases h3
  · have a1 : ¬ (i' < i ∨ i' = i ∧ j' < j) := fun q => by rw [h4 i' j' h1' h2' q] at h3'; cases h3'
    have a2 : ¬ (i < i' ∨ i = i' ∧ j < j') := fun q => by rw [h4' i j h1 h2 q] at h3; cases h3
    rw [e, e', show i = i' by omega, show j = j' by omega]
theorem d_10 (i j : Nat) : (Int8.ofInt 10).toInt32 * Int32.ofNat i + Int32.ofNat j = Int32.ofNat (10 * i + j) := by
  rw [Int32.ofNat_add, Int32.ofNat_mul]; rfl
theorem x_first (L : d_LX X ad P K F n lw) (T : d_TB n B) : ∃ o, f2_firstOrphanPair (d_cB X ad B, nx) ad = some o ∧ d_FO n K F B o := by
  have hn := L.2.2
  unfold f2_firstOrphanPair
  simp only [x_c L, x_counting L (fun i hi => d_TB_sm T hn hi), obd]
  obtain ⟨r, h1, h2⟩ := d_it (step := f2_firstOrphanPair_L7 (d_cB X ad B, nx) ad (d_mk n (d_co K F B))) (fun k w => w = Int32.ofNat k ∧ ∀ i j, i < k → i < j → j < n → d_or n K F B i j = false) (fun r => (r = .inr () ∧ d_FO n K F B (Int32.ofInt (-4))) ∨ ∃ o, r = .inl o ∧ d_FO n K F B o) n (by
      rintro k w hk ⟨rfl, h⟩
      unfold f2_firstOrphanPair_L7
      simp only [x_n L, obd, d_lef hk (by omega), if_false, d_su]
      obtain ⟨r, g1, g2⟩ := d_it (step := f2_firstOrphanPair_L19 (d_cB X ad B, nx) ad (d_mk n (d_co K F B)) (Int32.ofNat k)) (fun q w => w = Int32.ofNat q ∧ k < q ∧ ∀ j, k < j → j < q → d_or n K F B k j = false) (fun r => (r = .inr () ∧ ∀ j, k < j → j < n → d_or n K F B k j = false) ∨ ∃ o, r = .inl o ∧ d_FO n K F B o) n (by
          rintro q w hq ⟨rfl, hkq, g⟩
          unfold f2_firstOrphanPair_L19
          simp only [x_n L, x_c L, obd, d_lef hq (by omega), if_false, d_su, x_masters L T hk hq, d_mk_or hn, d_10]
          cases e : d_or n K F B k q with
          | true => exact Or.inr ⟨_, rfl, Or.inr ⟨_, rfl, Or.inr ⟨k, q, hkq, hq, e, fun i' j' a1 a2 a3 => by
              rcases a3 with a3 | ⟨a3, a4⟩
              · exact h i' j' a3 a1 a2
              · subst a3; exact g j' a1 a4, rfl⟩⟩⟩
          | false => exact Or.inl ⟨_, rfl, rfl, by omega, fun j a1 a2 => by
              by_cases a3 : j = q
              · rw [a3]; exact e
              · exact g j a1 (by omega)⟩) (by
          rintro w ⟨rfl, hkq, g⟩
          unfold f2_firstOrphanPair_L19
          simp only [x_n L, obd, d_let, if_true]
          exact ⟨_, rfl, Or.inl ⟨rfl, g⟩⟩) FU (k + 1) (Int32.ofNat (k + 1)) (by omega) (by unfold FU; omega) ⟨rfl, by omega, fun j a1 a2 => by omega⟩
      rw [g1]
      rcases g2 with ⟨rfl, g⟩ | ⟨o, rfl, g⟩
      · exact Or.inl ⟨_, rfl, rfl, fun i j a1 a2 a3 => by
          by_cases a4 : i = k
          · subst a4; exact g j a2 a3
          · exact h i j (by omega) a2 a3⟩
      · exact Or.inr ⟨_, rfl, Or.inr ⟨o, rfl, g⟩⟩) (by
      rintro w ⟨rfl, h⟩
      unfold f2_firstOrphanPair_L7
      simp only [x_n L, obd, d_let, if_true]
      exact ⟨_, rfl, Or.inl ⟨rfl, Or.inl ⟨rfl, fun i j a1 a2 => h i j (by omega) a1 a2⟩⟩⟩) FU 0 (Int32.ofInt 0) (by omega) (by unfold FU; omega) ⟨rfl, fun i j hi => by omega⟩
  rw [h1]
  rcases h2 with ⟨rfl, h⟩ | ⟨o, rfl, h⟩
  · exact ⟨_, rfl, h⟩
  · exact ⟨_, rfl, h⟩
theorem d_n4 {k : Nat} (h : k < 1000) : (Int32.ofNat k = (Int8.ofInt (-4)).toInt32) = False := by
  rw [← Int32.toInt_inj, d_tn (by omega), show ((Int8.ofInt (-4)).toInt32).toInt = -4 by decide]
  apply propext
  constructor
  · intro q; omega
  · exact False.elim
theorem x_lawful (L : d_LX X ad P K F n lw) (T : d_TB n B) : f2_isLawful (d_cB X ad B, nx) ad = some (d_i (d_lw n K F B lw)) := by
  have hn := L.2.2
  unfold f2_isLawful d_lw
  simp only [x_l L, obd, x_c L]
  by_cases e : lw = 1
  · rw [if_pos (show lw = Int32.ofInt 1 from e), if_pos e, x_each L T]
    simp only [d_isB, ogd]
  · rw [if_neg (show ¬ lw = Int32.ofInt 1 from e), if_neg e]
    obtain ⟨o, h1, h2⟩ := x_first (nx := nx) L T
    rw [h1]
    simp only
    rcases h2 with ⟨e1, h⟩ | ⟨i, j, a1, a2, a3, a4, e1⟩
    · rw [e1, if_pos (by decide), decide_eq_true (fun j hj i hi => h i j hi hj)]; rfl
    · rw [e1]
      simp only [d_n4 (show 10 * i + j < 1000 by omega), if_false]
      rw [decide_eq_false (fun q => by rw [q j a2 i a1] at a3; cases a3)]; rfl
end CLASS_LAWFUL
section MODEL_LAWFUL
variable {Z : Nat → Option HO} {ma n nx : Nat} {S : Nat → Int32} {K F : Nat → Nat} {B : Nat → Int32} {lw : Int32}
def d_KF (n : Nat) (K F : Nat → Nat) : Prop := ∀ i, i < n → K i < 8 ∧ F i < 10
theorem m_counts (h : d_MZ Z ma) (hS : d_MS S n K F B lw) (hn : n ≤ 8) (hk : d_KF n K F) (T : d_TB n B) {p : Nat} (hp : p < n) : f11_counts (d_mS Z ma S, nx) ma (Int32.ofNat p) = some (d_i (d_co K F B p)) := by
  unfold f11_counts d_co
  obtain ⟨a1, a2, a3⟩ := hS.2.2 p hp
  simp only [m_c h, m_beaten h (show p < 8 by omega), m_kind h (show p < 8 by omega), m_figure h (show p < 8 by omega), obd, a1, a2, a3, d_pcm (d_TB_sm T hn hp)]
  have b1 := (hk p hp).1
  have b2 := (hk p hp).2
  have b3 : d_pc (B p) < 9 := by have := d_pc8 (B p); omega
  generalize K p = k at b1 ⊢
  generalize F p = f at b2 ⊢
  generalize d_pc (B p) = w at b3 ⊢
  clear a1 a2 a3
  revert w; revert f; revert k
  decide +kernel
theorem d_set (x : Int32) {i j : Nat} (hi : i < 32) (hj : j < 32) : (x &&& (d_one i ||| d_one j) = (d_one i ||| d_one j)) = (d_b x i = true ∧ d_b x j = true) := by
  apply propext
  constructor
  · intro h
    have h1 : d_b (x &&& (d_one i ||| d_one j)) i = d_b (d_one i ||| d_one j) i := by rw [h]
    have h2 : d_b (x &&& (d_one i ||| d_one j)) j = d_b (d_one i ||| d_one j) j := by rw [h]
    rw [d_band, d_bor, d_bone hi, d_bone hj] at h1 h2
    simp at h1 h2
    exact ⟨h1, h2⟩
  · rintro ⟨h1, h2⟩
    apply d_bx
    intro p hp
    rw [d_band, d_bor, d_bone hi, d_bone hj]
    by_cases e1 : p = i
    · subst e1; simp [h1]
    · by_cases e2 : p = j
      · subst e2; simp [h2]
      · simp [e1, e2]
theorem m_masters (h : d_MZ Z ma) (hS : d_MS S n K F B lw) (hn : n ≤ 8) (hk : d_KF n K F) (T : d_TB n B) {i j : Nat} (hi : i < n) (hj : j < n) : f11_mastersOf (d_mS Z ma S, nx) ma (d_one i ||| d_one j) = some (d_mk n (d_ms K F B i j)) := by
  unfold f11_mastersOf
  rw [show iter (f11_mastersOf_L4 (d_mS Z ma S, nx) ma (d_one i ||| d_one j)) FU (Int32.ofInt 0, Int32.ofInt 0) = some (d_mk n (d_ms K F B i j)) from
    d_for (fun p => (d_mk p (d_ms K F B i j), Int32.ofNat p)) _ n 0 (by omega) (by omega) ?_ ?_]
  · rfl
  · intro p _ hp
    unfold f11_mastersOf_L4
    simp only [m_f0 h, obd, orf, m_ld0, hS.1, d_lef hp (by omega), if_false, m_c h, m_beaten h (show p < 8 by omega), (hS.2.2 p hp).2.2, d_set _ (show i < 32 by omega) (show j < 32 by omega), m_counts h hS hn hk T hp, d_i0, d_one_e (show p < 32 by omega), d_su]
    show _ = some (Sum.inl ((if (d_co K F B p && (d_b (B p) i && d_b (B p) j)) = true then d_mk p (d_ms K F B i j) ||| d_one p else d_mk p (d_ms K F B i j)), _))
    cases d_co K F B p <;> cases d_b (B p) i <;> cases d_b (B p) j <;> simp
  · unfold f11_mastersOf_L4
    simp only [m_f0 h, obd, orf, m_ld0, hS.1, d_let, if_true]
theorem m_lawful (h : d_MZ Z ma) (hS : d_MS S n K F B lw) (hn : n ≤ 8) (hk : d_KF n K F) (T : d_TB n B) (hl : lw = 1 ∨ lw = 2) : f11_isLawful (d_mS Z ma S, nx) ma = some (d_i (d_lw n K F B lw)) := by
  unfold f11_isLawful
  simp only [m_f0 h, obd, orf, m_ld0, m_ld1, hS.1, hS.2.1]
  by_cases hb : lw ≤ Int32.ofNat n
  · rw [if_pos hb]
    -- what each turn of the outer loop finds
    have key : ∀ k, k < n → f11_isLawful_L19 (d_mS Z ma S, nx) ma (Int32.ofNat k) = if (if lw = 1 then d_or n K F B k k = false else ∀ i, i < k → d_or n K F B i k = false) then some (.inl (Int32.ofNat (k + 1))) else some (.inr (.inl (Int32.ofInt 0))) := by
      intro k hk1
      unfold f11_isLawful_L19
      simp only [m_f0 h, obd, orf, m_ld0, m_ld1, hS.1, hS.2.1, d_lef hk1 (by omega), if_false]
      by_cases e : lw = 1
      · have e' : lw = Int32.ofInt 1 := e
        rw [if_pos e']
        simp only [if_pos e]
        unfold f11_isLawful_K44
        have one : iter (f11_isLawful_L45 (d_mS Z ma S, nx) ma (Int32.ofNat k)) FU (Int32.ofNat k) = some (if d_or n K F B k k = false then .inr () else .inl (Int32.ofInt 0)) := by
          have s1 : f11_isLawful_L45 (d_mS Z ma S, nx) ma (Int32.ofNat k) (Int32.ofNat k) = if d_or n K F B k k = true then some (.inr (.inl (Int32.ofInt 0))) else some (.inl (Int32.ofNat (k + 1))) := by
            unfold f11_isLawful_L45
            simp only [m_f0 h, obd, orf, m_ld1, hS.2.1]
            rw [if_pos e']
            unfold f11_isLawful_K63
            simp only [d_su, d_lef (show k < k + 1 by omega) (by omega), if_false, m_c h, d_one_e (show k < 32 by omega), m_masters h hS hn hk T hk1 hk1, obd, d_mk_or hn]
          have s2 : f11_isLawful_L45 (d_mS Z ma S, nx) ma (Int32.ofNat k) (Int32.ofNat (k + 1)) = some (.inr (.inr ())) := by
            unfold f11_isLawful_L45
            simp only [m_f0 h, obd, orf, m_ld1, hS.2.1]
            rw [if_pos e']
            unfold f11_isLawful_K63
            simp only [d_su, d_let, if_true]
          show iter _ (999999 + 1) _ = _
          unfold iter
          rw [s1]
          cases d_or n K F B k k with
          | true => rfl
          | false =>
            show iter _ (999998 + 1) _ = _
            unfold iter
            simp only [s2]
            rfl
        rw [one]
        cases d_or n K F B k k with
        | true => rfl
        | false => simp only [obd, osm, d_su, if_true]
      · have e' : ¬ lw = Int32.ofInt 1 := e
        rw [if_neg e']
        simp only [if_neg e]
        unfold f11_isLawful_K44
        obtain ⟨r, g1, g2⟩ := d_it (step := f11_isLawful_L45 (d_mS Z ma S, nx) ma (Int32.ofNat k)) (fun q w => w = Int32.ofNat q ∧ ∀ i, i < q → d_or n K F B i k = false) (fun r => (r = .inr () ∧ ∀ i, i < k → d_or n K F B i k = false) ∨ (r = .inl (Int32.ofInt 0) ∧ ¬ ∀ i, i < k → d_or n K F B i k = false)) k (by
            rintro q w hq ⟨rfl, g⟩
            unfold f11_isLawful_L45
            simp only [m_f0 h, obd, orf, m_ld1, hS.2.1]
            rw [if_neg e']
            unfold f11_isLawful_K63
            simp only [d_su, d_lef hq (by omega), if_false, m_c h, d_one_e (show k < 32 by omega), d_one_e (show q < 32 by omega), m_masters h hS hn hk T hk1 (show q < n by omega), obd, d_mk_or hn, d_or_comm n K F B k q]
            cases e2 : d_or n K F B q k with
            | true => exact Or.inr ⟨_, rfl, Or.inr ⟨rfl, fun z => by rw [z q hq] at e2; cases e2⟩⟩
            | false => exact Or.inl ⟨_, rfl, rfl, fun i hi => by
                by_cases z : i = q
                · rw [z]; exact e2
                · exact g i (by omega)⟩) (by
            rintro w ⟨rfl, g⟩
            unfold f11_isLawful_L45
            simp only [m_f0 h, obd, orf, m_ld1, hS.2.1]
            rw [if_neg e']
            unfold f11_isLawful_K63
            simp only [d_let, if_true]
            exact ⟨_, rfl, Or.inl ⟨rfl, g⟩⟩) FU 0 (Int32.ofInt 0) (by omega) (by unfold FU; omega) ⟨rfl, fun i hi => by omega⟩
        rw [g1]
        rcases g2 with ⟨rfl, g⟩ | ⟨rfl, g⟩
        · rw [if_pos g]; simp only [obd, osm, d_su]
        · rw [if_neg g]; rfl
    obtain ⟨r, h1, h2⟩ := d_it (step := f11_isLawful_L19 (d_mS Z ma S, nx) ma) (fun k w => w = Int32.ofNat k ∧ ∀ j, j < k → (if lw = 1 then d_or n K F B j j = false else ∀ i, i < j → d_or n K F B i j = false)) (fun r => r = if d_lw n K F B lw = true then .inr () else .inl (Int32.ofInt 0)) n (by
        rintro k w hk1 ⟨rfl, g⟩
        rw [key k hk1]
        by_cases c : (if lw = 1 then d_or n K F B k k = false else ∀ i, i < k → d_or n K F B i k = false)
        · rw [if_pos c]
          exact Or.inl ⟨_, rfl, rfl, fun j hj => by
            by_cases z : j = k
            · rw [z]; exact c
            · exact g j (by omega)⟩
        · rw [if_neg c]
          refine Or.inr ⟨_, rfl, ?_⟩
          have : ¬ d_lw n K F B lw = true := by
            unfold d_lw
            by_cases e : lw = 1
            · rw [if_pos e] at c ⊢
              rw [decide_eq_true_eq]
              exact fun z => c (z k hk1)
            · rw [if_neg e] at c ⊢
              rw [decide_eq_true_eq]
              exact fun z => c (z k hk1)
          rw [if_neg this]) (by
        rintro w ⟨rfl, g⟩
        unfold f11_isLawful_L19
        simp only [m_f0 h, obd, orf, m_ld0, hS.1, d_let, if_true]
        refine ⟨_, rfl, ?_⟩
        have : d_lw n K F B lw = true := by
          unfold d_lw
          by_cases e : lw = 1
          · rw [if_pos e, decide_eq_true_eq]
            intro i hi
            have := g i hi
            rwa [if_pos e] at this
          · rw [if_neg e, decide_eq_true_eq]
            intro i hi
            have := g i hi
            rwa [if_neg e] at this
        rw [if_pos this]) FU 0 (Int32.ofInt 0) (by omega) (by unfold FU; omega) ⟨rfl, fun i hi => by omega⟩
    rw [h1, h2]
    cases d_lw n K F B lw <;> rfl
  · rw [if_neg hb]
    have : d_lw n K F B lw = true := by
      unfold d_lw
      rcases hl with rfl | rfl
      · have : n < 1 := by
          have q : ¬ (Int32.ofNat 1 ≤ Int32.ofNat n) := hb
          rw [d_le (by omega) (by omega)] at q
          omega
        rw [if_pos rfl, decide_eq_true_eq]
        intro i hi; omega
      · have : n < 2 := by
          have q : ¬ (Int32.ofNat 2 ≤ Int32.ofNat n) := hb
          rw [d_le (by omega) (by omega)] at q
          omega
        rw [if_neg (by decide), decide_eq_true_eq]
        intro i hi j hj; omega
    rw [this]; rfl
end MODEL_LAWFUL
