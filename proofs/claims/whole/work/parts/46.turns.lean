/-! PURE: what is in mind: turned matches; holding, free -/
def tL (k : Nat) : Nat := ([0, 0, 1, 0, 1, 2, 0, 1, 2, 3, 0, 1, 2, 3, 4, 0, 1, 2, 3, 4, 5, 0, 1, 2, 3, 4, 5, 6] : List Nat).getD k 0
def tG (k : Nat) : Nat := ([1, 2, 2, 3, 3, 3, 4, 4, 4, 4, 5, 5, 5, 5, 5, 6, 6, 6, 6, 6, 6, 7, 7, 7, 7, 7, 7, 7] : List Nat).getD k 0
theorem t_e {k : Nat} (h : k < 28) : tbL k = Int32.ofNat (tL k) ∧ tbG k = Int32.ofNat (tG k) ∧ tL k < tG k ∧ tG k < 8 :=
  (show ∀ k, k < 28 → tbL k = Int32.ofNat (tL k) ∧ tbG k = Int32.ofNat (tG k) ∧ tL k < tG k ∧ tG k < 8 by decide +kernel) k h
theorem t_n {n k : Nat} (hn : n ≤ 8) (h : k < n * (n - 1) / 2) : tG k < n ∧ k < 28 :=
  (show ∀ n, n < 9 → ∀ k, k < n * (n - 1) / 2 → tG k < n ∧ k < 28 by decide +kernel) n (by omega) k h
def d_fl (B : Nat → Int32) (i j : Nat) : Nat → Int32 := upd (upd B i (B i ^^^ d_one j)) j (upd B i (B i ^^^ d_one j) j ^^^ d_one i)
theorem d_xx (x y : Int32) : x ^^^ y ^^^ y = x := by
  apply d_bx
  intro j _
  rw [d_bxor, d_bxor]
  cases d_b x j <;> cases d_b y j <;> rfl
theorem d_fl_at {B : Nat → Int32} {i j : Nat} (h : i ≠ j) (p : Nat) : d_fl B i j p = if p = i then B i ^^^ d_one j else if p = j then B j ^^^ d_one i else B p := by
  unfold d_fl upd
  by_cases e : p = j
  · rw [if_pos e, if_neg (fun z => h z.symm), if_neg (fun z => h (z.symm.trans e)), if_pos e]
  · rw [if_neg e, if_neg e]
theorem d_fl_tn (B : Nat → Int32) {i j : Nat} (h : i ≠ j) : d_fl (d_fl B i j) i j = B := by
  funext p
  rw [d_fl_at h, d_fl_at h, d_fl_at h]
  by_cases e1 : p = i
  · rw [if_pos e1, if_pos rfl, d_xx, e1]
  · rw [if_neg e1]
    by_cases e2 : p = j
    · rw [if_pos e2, if_neg (fun z => h z.symm), if_pos rfl, d_xx, e2]
    · rw [if_neg e2, d_fl_at h, if_neg e1, if_neg e2]
theorem d_fl_b {n : Nat} {B : Nat → Int32} (hn : n ≤ 8) {i j : Nat} (hi : i < n) (hj : j < n) (h : i ≠ j) (p q : Nat) : d_b (d_fl B i j p) q = (d_b (B p) q ^^ (decide (p = i) && decide (q = j) || decide (p = j) && decide (q = i))) := by
  rw [d_fl_at h]
  by_cases e1 : p = i
  · rw [if_pos e1, d_bxor, d_bone (by omega), e1]
    have : ¬ i = j := h
    simp [this]
  · rw [if_neg e1]
    by_cases e2 : p = j
    · rw [if_pos e2, d_bxor, d_bone (by omega), e2]
      have : ¬ j = i := fun z => h z.symm
      simp [this]
    · rw [if_neg e2]; simp [e1, e2]
theorem d_TB_fl {n : Nat} {B : Nat → Int32} (hn : n ≤ 8) (T : d_TB n B) {i j : Nat} (hi : i < n) (hj : j < n) (h : i ≠ j) : d_TB n (d_fl B i j) := by
  refine ⟨fun p hp q hq => ?_, fun p hp => ?_, fun p q hp hq e => ?_⟩
  · rw [d_fl_b hn hi hj h, T.1 p hp q hq, decide_eq_false (show ¬ q = j by omega), decide_eq_false (show ¬ q = i by omega)]; simp
  · rw [d_fl_b hn hi hj h, T.2.1 p hp]
    by_cases e1 : p = i
    · rw [decide_eq_false (show ¬ p = j from fun z => h (e1.symm.trans z))]; simp
    · rw [decide_eq_false e1]; simp
  · rw [d_fl_b hn hi hj h, d_fl_b hn hi hj h, T.2.2 p q hp hq e]
    by_cases a1 : p = i <;> by_cases a2 : q = j <;> by_cases a3 : p = j <;> by_cases a4 : q = i <;> simp [a1, a2, a3, a4] <;> (try omega) <;> (cases d_b (B p) q <;> simp_all)
theorem d_fl_win {n : Nat} {B : Nat → Int32} (hn : n ≤ 8) (T : d_TB n B) {i j : Nat} (hi : i < n) (hj : j < n) (h : i ≠ j) : ∀ p, (if d_b (B i) j = true then d_win B j i else d_win B i j) p = d_fl B i j p := by
  have key : ∀ i j, i < n → j < n → i ≠ j → d_b (B i) j = false → ∀ p, d_win B i j p = d_fl B i j p := by
    intro i j hi hj h hb p
    apply d_bx
    intro q hq
    rw [d_fl_b hn hi hj h]
    unfold d_win upd
    by_cases e1 : p = j
    · have e3 : ¬ j = i := fun z => h z.symm
      rw [if_pos e1, if_neg e3, d_band, d_bnot _ hq, d_bone (by omega), e1]
      by_cases e2 : q = i
      · rw [e2, T.2.2 i j hi hj h, hb]; simp [e3]
      · simp [e2, e3]
    · rw [if_neg e1]
      by_cases e2 : p = i
      · rw [if_pos e2, d_bor, d_bone (by omega), e2]
        by_cases e3 : q = j
        · rw [e3, hb]; simp [h]
        · simp [e3, h]
      · rw [if_neg e2]; simp [e1, e2]
  intro p
  split
  · rename_i hb
    rw [key j i hj hi (fun z => h z.symm) (by rw [T.2.2 i j hi hj h, hb]; rfl) p, d_fl_at h, d_fl_at (fun z => h z.symm)]
    by_cases e1 : p = i
    · rw [if_pos e1, if_neg (fun z => h (e1.symm.trans z)), if_pos e1]
    · rw [if_neg e1]
      by_cases e2 : p = j
      · simp only [if_pos e2, if_neg e1]
      · simp only [if_neg e2, if_neg e1]
  · rename_i hb
    exact key i j hi hj h (by simpa using hb) p
theorem d_lw_c {n : Nat} {K F K' F' : Nat → Nat} {B B' : Nat → Int32} (lw : Int32) (h : ∀ i, i < n → K i = K' i ∧ F i = F' i ∧ B i = B' i) : d_lw n K F B lw = d_lw n K' F' B' lw := by
  have ms : ∀ i j p, p < n → d_ms K F B i j p = d_ms K' F' B' i j p := fun i j p hp => by
    unfold d_ms d_co
    rw [(h p hp).1, (h p hp).2.1, (h p hp).2.2]
  have or : ∀ i j, d_or n K F B i j = d_or n K' F' B' i j := fun i j => by
    unfold d_or
    congr 1
    apply propext
    exact ⟨fun q p hp => by rw [← ms i j p hp]; exact q p hp, fun q p hp => by rw [ms i j p hp]; exact q p hp⟩
  unfold d_lw
  simp only [or]
section MINDX
variable {X : Nat → Option HO} {ad n nx : Nat} {P K F : Nat → Nat} {lw : Int32} {B : Nat → Int32}
theorem x_turn (L : d_LX X ad P K F n lw) {k : Nat} (hk : k < 28) : f2_turn (d_cB X ad B, nx) ad (Int32.ofNat k) = some (d_cB X ad (d_fl B (tL k) (tG k)), nx) := by
  obtain ⟨h1, h2, h3, h4⟩ := t_e hk
  unfold f2_turn
  simp only [x_f1 L, obd, d_inb hk (show 28 ≤ 1000 by omega), ogd, orf, d_nn (show k < 2147483648 by omega), h1, h2, x_ld (show tL k < 8 by omega), x_ld h4, x_st (show tL k < 8 by omega), x_st h4, d_one_e (show tL k < 32 by omega), d_one_e (show tG k < 32 by omega)]
  rfl
theorem d_half_n {n : Nat} (hn : n ≤ 8) : (Int32.ofNat n * (Int32.ofNat n - Int32.ofInt 1)) / Int32.ofInt 2 = Int32.ofNat (n * (n - 1) / 2) :=
  (show ∀ n, n < 9 → (Int32.ofNat n * (Int32.ofNat n - Int32.ofInt 1)) / Int32.ofInt 2 = Int32.ofNat (n * (n - 1) / 2) by decide +kernel) n (by omega)
theorem d_28 {n : Nat} (hn : n ≤ 8) : n * (n - 1) / 2 ≤ 28 := (show ∀ n, n < 9 → n * (n - 1) / 2 ≤ 28 by decide) n (by omega)
theorem x_matches (L : d_LX X ad P K F n lw) : f2_matches (d_cB X ad B, nx) ad = some (Int32.ofNat (n * (n - 1) / 2)) := by
  unfold f2_matches
  simp only [x_n L, obd, onz, if_neg (show ¬ Int32.ofInt 2 = 0 by decide), d_half_n L.2.2]
end MINDX
theorem d_pairs (t : Nat → Nat → Nat) {n : Nat} (hn : n ≤ 7) : d_sum (n * (n - 1) / 2) (fun k => t (tL k) (tG k)) = d_sum n (fun i => d_sumr (i + 1) n (fun j => t i j)) := by
  rcases (show n = 0 ∨ n = 1 ∨ n = 2 ∨ n = 3 ∨ n = 4 ∨ n = 5 ∨ n = 6 ∨ n = 7 by omega) with rfl | rfl | rfl | rfl | rfl | rfl | rfl | rfl <;> simp [d_sum, d_sumr, tL, tG] <;> omega
theorem d_sum_add (f g : Nat → Nat) : ∀ m, d_sum m f + d_sum m g = d_sum m (fun i => f i + g i)
  | 0 => rfl
  | m + 1 => by
    show d_sum m f + f m + (d_sum m g + g m) = d_sum m (fun i => f i + g i) + (f m + g m)
    rw [← d_sum_add f g m]; omega
theorem d_sum_1 : ∀ m, d_sum m (fun _ => 1) = m
  | 0 => rfl
  | m + 1 => by show d_sum m (fun _ => 1) + 1 = m + 1; rw [d_sum_1 m]
/-- by the turn of how many matches it is lawful -/
theorem x_turns {a nx : Nat} {X : Nat → Option HO} {hi : Int32} {P K F : Nat → Nat} {n : Nat} {lw : Int32} {B : Nat → Int32} {P' K' F' : Nat → Nat} {n' : Nat} {lw' : Int32} {B' : Nat → Int32} (hX : d_CX X a hi) (G : d_LG a nx X (a + 2) P K F n lw B) (G' : d_LG a nx X (a + 5) P' K' F' n' lw' B') (T : d_TB n B) :
    ∃ X' B1, f10_lawfulTurns (X, nx) a = some (Int32.ofNat (d_sum (n * (n - 1) / 2) (fun k => (d_lw n K F (d_fl B (tL k) (tG k)) lw).toNat)), (X', nx)) ∧ d_LG a nx X' (a + 5) P K F n lw B1 ∧ ∀ q, ¬ (a + 5 ≤ q ∧ q ≤ a + 7) → X' q = X q := by
  obtain ⟨X1, B1, k1, k2, k3, k4⟩ := x_become (nx := nx) (ad := a + 5) (bd := a + 2) (by omega) (fun k hk => by rw [Nat.add_assoc]; exact d_nok (by omega) (by omega)) G' G
  have hn := G.1.2.2
  have L := k3.1
  have eX := d_cB_e k3.2.1
  have hX1 : d_CX X1 a hi := (k4 a (by omega) (by omega) (by omega)).trans hX
  have hXq : ∀ B, d_CX (d_cB X1 (a + 5) B) a hi := fun B => (d_cB_ne (by omega)).trans hX1
  have T1 : d_TB n B1 := d_TB_c (fun i hi => (k2 i (by omega)).symm) T
  refine ⟨X1, B1, ?_, k3, fun q hq => k4 q (by omega) (by omega) (by omega)⟩
  unfold f10_lawfulTurns
  simp only [c_draft hX, c_now hX, obd, orf, d_ocl (d_hcls (σ := (X, nx)) G'.1.1.1), k1]
  have lp : iter (f10_lawfulTurns_L15 a) FU (Int32.ofInt 0, Int32.ofInt 0, (d_cB X1 (a + 5) B1, nx)) = some (Int32.ofNat (d_sum (n * (n - 1) / 2) (fun k => (d_lw n K F (d_fl B (tL k) (tG k)) lw).toNat)), (d_cB X1 (a + 5) B1, nx)) := by
    refine d_for (fun k => (Int32.ofNat (d_sum k (fun k => (d_lw n K F (d_fl B (tL k) (tG k)) lw).toNat)), Int32.ofNat k, ((d_cB X1 (a + 5) B1, nx) : HM))) _ (n * (n - 1) / 2) 0 (by omega) (by have := d_28 hn; omega) ?_ ?_
    · intro k _ hk
      obtain ⟨t1, t2⟩ := t_n hn hk
      obtain ⟨-, -, t3, t4⟩ := t_e t2
      have T2 := d_TB_fl hn T1 (show tL k < n by omega) t1 (show tL k ≠ tG k by omega)
      have lc : d_lw n K F (d_fl B1 (tL k) (tG k)) lw = d_lw n K F (d_fl B (tL k) (tG k)) lw := d_lw_c lw (fun i hi => ⟨rfl, rfl, by rw [d_fl_at (by omega), d_fl_at (by omega), k2 _ (show tL k < 8 by omega), k2 _ t4, k2 i (by omega)]⟩)
      unfold f10_lawfulTurns_L15
      simp only [c_draft (hXq _), obd, orf, x_c L, x_matches L, d_lef hk (by have := d_28 hn; omega), if_false, x_turn L t2, x_lawful L T2, d_i0, d_fl_tn B1 (show tL k ≠ tG k by omega), d_su]
      show _ = some (Sum.inl (Int32.ofNat (_ + (d_lw n K F (d_fl B (tL k) (tG k)) lw).toNat), _))
      rw [lc]
      cases d_lw n K F (d_fl B (tL k) (tG k)) lw <;> rfl
    · unfold f10_lawfulTurns_L15
      simp only [c_draft (hXq _), obd, orf, x_c L, x_matches L, d_let, if_true]
  rw [eX] at lp
  rw [lp]
section MTURN
variable {Z : Nat → Option HO} {ma n nx : Nat} {S : Nat → Int32} {K F : Nat → Nat} {B : Nat → Int32} {lw : Int32}
theorem m_turns (h : d_MZ Z ma) (hS : d_MS S n K F B lw) (hn : n ≤ 8) (T : d_TB n B) {i j : Nat} (hi : i < n) (hj : j < n) (hij : i ≠ j) : ∃ S', f11_turns (d_mS Z ma S, nx) ma (Int32.ofNat i) (Int32.ofNat j) = some (d_mS Z ma S', nx) ∧ d_MS S' n K F (d_fl B i j) lw := by
  have e := d_fl_win hn T hi hj hij
  unfold f11_turns
  simp only [m_c h, m_beaten h (show i < 8 by omega), (hS.2.2 i hi).2.2, obd, d_bit _ (show j < 32 by omega), d_i1]
  cases c : d_b (B i) j with
  | true =>
    obtain ⟨S', g1, g2⟩ := m_beats (nx := nx) h hS hn hj hi
    rw [if_pos rfl, g1]
    refine ⟨S', rfl, d_MS_cB (fun p hp => ⟨rfl, rfl, ?_⟩) g2⟩
    have := e p
    rw [c, if_pos rfl] at this
    exact this
  | false =>
    obtain ⟨S', g1, g2⟩ := m_beats (nx := nx) h hS hn hi hj
    rw [if_neg (by simp), g1]
    refine ⟨S', rfl, d_MS_cB (fun p hp => ⟨rfl, rfl, ?_⟩) g2⟩
    have := e p
    rw [c, if_neg (by simp)] at this
    exact this
theorem m_turnedTo (h : d_MZ Z ma) (hS : d_MS S n K F B lw) (hn : n ≤ 8) (hk : d_KF n K F) (T : d_TB n B) (hl : lw = 1 ∨ lw = 2) (c : Bool) : ∃ S', f11_turnedTo (d_mS Z ma S, nx) ma (d_i c) = some (Int32.ofNat (d_sum n (fun i => d_sumr (i + 1) n (fun j => (d_lw n K F (d_fl B i j) lw == c).toNat))), (d_mS Z ma S', nx)) ∧ d_MS S' n K F B lw := by
  unfold f11_turnedTo
  obtain ⟨r, g1, S', rfl, g2⟩ := d_it (step := f11_turnedTo_L4 ma (d_i c)) (fun i w => ∃ S', w = (Int32.ofNat (d_sum i (fun i => d_sumr (i + 1) n (fun j => (d_lw n K F (d_fl B i j) lw == c).toNat))), Int32.ofNat i, (d_mS Z ma S', nx)) ∧ d_MS S' n K F B lw) (fun r => ∃ S', r = (Int32.ofNat (d_sum n (fun i => d_sumr (i + 1) n (fun j => (d_lw n K F (d_fl B i j) lw == c).toNat))), (d_mS Z ma S', nx)) ∧ d_MS S' n K F B lw) n (by
      rintro i w hi ⟨S', rfl, hS'⟩
      unfold f11_turnedTo_L4
      simp only [m_f0 h, obd, orf, m_ld0, hS'.1, d_lef hi (by omega), if_false, d_su]
      obtain ⟨r, g1, S2, rfl, g2⟩ := d_it (step := f11_turnedTo_L19 ma (d_i c) (Int32.ofNat i)) (fun j w => ∃ S', w = (Int32.ofNat (d_sum i (fun i => d_sumr (i + 1) n (fun j => (d_lw n K F (d_fl B i j) lw == c).toNat)) + d_sumr (i + 1) j (fun j => (d_lw n K F (d_fl B i j) lw == c).toNat)), Int32.ofNat j, (d_mS Z ma S', nx)) ∧ i < j ∧ d_MS S' n K F B lw) (fun r => ∃ S', r = (Int32.ofNat (d_sum (i + 1) (fun i => d_sumr (i + 1) n (fun j => (d_lw n K F (d_fl B i j) lw == c).toNat))), (d_mS Z ma S', nx)) ∧ d_MS S' n K F B lw) n (by
          rintro j w hj ⟨S', rfl, hij, hS'⟩
          obtain ⟨S1, t1, t2⟩ := m_turns (nx := nx) h hS' hn T hi hj (show i ≠ j by omega)
          have T2 := d_TB_fl hn T hi hj (show i ≠ j by omega)
          obtain ⟨S2, t3, t4⟩ := m_turns (nx := nx) h t2 hn T2 hi hj (show i ≠ j by omega)
          rw [d_fl_tn B (show i ≠ j by omega)] at t4
          unfold f11_turnedTo_L19
          simp only [m_f0 h, obd, orf, m_ld0, hS'.1, d_lef hj (by omega), if_false, m_c h, t1, m_lawful h t2 hn hk T2 hl, d_ii]
          unfold f11_turnedTo_K51
          simp only [m_c h, t3, obd, d_su, d_su0]
          refine Or.inl ⟨(Int32.ofNat (d_sum i (fun i => d_sumr (i + 1) n (fun j => (d_lw n K F (d_fl B i j) lw == c).toNat)) + d_sumr (i + 1) (j + 1) (fun j => (d_lw n K F (d_fl B i j) lw == c).toNat)), Int32.ofNat (j + 1), (d_mS Z ma S2, nx)), ?_, S2, rfl, by omega, t4⟩
          rw [d_sumrs (show i + 1 ≤ j by omega), ← Nat.add_assoc]
          cases d_lw n K F (d_fl B i j) lw <;> cases c <;> rfl) (by
          rintro w ⟨S', rfl, hij, hS'⟩
          unfold f11_turnedTo_L19
          simp only [m_f0 h, obd, orf, m_ld0, hS'.1, d_let, if_true]
          exact ⟨_, rfl, S', rfl, hS'⟩) FU (i + 1) (Int32.ofNat (d_sum i (fun i => d_sumr (i + 1) n (fun j => (d_lw n K F (d_fl B i j) lw == c).toNat))), Int32.ofNat (i + 1), (d_mS Z ma S', nx)) (by omega) (by unfold FU; omega) ⟨S', by rw [d_sumr0]; rfl, by omega, hS'⟩
      rw [g1]
      exact Or.inl ⟨_, rfl, S2, rfl, g2⟩) (by
      rintro w ⟨S', rfl, hS'⟩
      unfold f11_turnedTo_L4
      simp only [m_f0 h, obd, orf, m_ld0, hS'.1, d_let, if_true]
      exact ⟨_, rfl, S', rfl, hS'⟩) FU 0 (Int32.ofInt 0, Int32.ofInt 0, (d_mS Z ma S, nx)) (by omega) (by unfold FU; omega) ⟨S, rfl, hS⟩
  exact ⟨S', by rw [g1]; rfl, g2⟩
end MTURN
theorem d_R_dr {a ma nx : Nat} {X X' M : Nat → Option HO} {S' : Nat → Int32} (h : d_R a ma X M nx) (hX : ∀ q, ¬ (a + 5 ≤ q ∧ q ≤ a + 7) → X' q = X q) (hD : ∃ P K F n lw B, d_LG a nx X' (a + 5) P K F n lw B) (hS : ∀ S n K F B lw, M (ma + 1) = d_A 26 S → n ≤ 8 → d_MS S n K F B lw → d_MS S' n K F B lw) : d_R a ma X' (d_mS M ma S') nx := by
  have h0 := h
  obtain ⟨hi, b1, b2, b3, b4, b5, ⟨-, ⟨t, c1⟩, -, c2, c3, c4⟩, b7⟩ := h0
  refine d_R_mind h (Nat.le_refl _) (fun q _ h1 _ => hX q h1) (fun k hk => d_mS_ne (by omega)) (fun hi th po ba en lt lp sd q => ⟨th, po, ba, en, lt, lp, sd, (d_mS_ne (by omega)).trans q⟩) (fun S n K F B lw g1 g2 g3 => ⟨S', d_mS_at, hS S n K F B lw g1 g2 g3⟩) hD ⟨t, (hX _ (by omega)).trans c1⟩ ⟨?_, ?_, ?_⟩
  · obtain ⟨D, q⟩ := c2; exact ⟨D, (d_mS_ne (by omega)).trans q⟩
  · obtain ⟨D, q⟩ := c3; exact ⟨D, (d_mS_ne (by omega)).trans q⟩
  · obtain ⟨D, q⟩ := c4; exact ⟨D, (d_mS_ne (by omega)).trans q⟩
