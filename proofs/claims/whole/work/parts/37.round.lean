/-! PURE: round -/
theorem d_l20 (p s : Int32) : f11_isSet_L22 p s = f10_isHalfOfDifferences_L20 p s := rfl
theorem d_nat_tn {s : Int32} (h : ¬ s < 0) : s.toInt = s.toBitVec.toNat ∧ s.toBitVec.toNat < 2 ^ 31 := by
  have h1 : 0 ≤ s.toInt := by
    rw [Int32.lt_iff_toInt_lt, show (0 : Int32).toInt = 0 by decide] at h
    omega
  have h2 : s.toInt = s.toBitVec.toInt := rfl
  rw [BitVec.toInt_eq_toNat_cond] at h2
  have h3 := s.toBitVec.isLt
  split at h2 <;> omega
theorem d_one_int {m : Nat} (h : m < 31) : (d_one m).toInt = ((2 ^ m : Nat) : Int) := (show ∀ m, m < 31 → (d_one m).toInt = ((2 ^ m : Nat) : Int) by decide +kernel) m h
theorem d_srz {s : Int32} (h : ¬ s < 0) {m : Nat} (hm : m < 31) : (s >>> (Int32.ofNat m &&& 31) = 0) = (s < d_one m) := by
  obtain ⟨h1, h2⟩ := d_nat_tn h
  rw [Int32.lt_iff_toInt_lt, d_one_int hm, h1]
  apply propext
  constructor
  · intro e
    have : s.toBitVec.toNat < 2 ^ m := by
      apply Nat.lt_pow_two_of_testBit
      intro i hi
      by_cases c : i < 32
      · have q := d_bsr s (show m < 32 by omega) (show (i - m) + m < 32 by omega)
        rw [e, d_bz0, show i - m + m = i by omega] at q
        exact q.symm
      · exact d_b32 s (by omega)
    omega
  · intro e
    have e' : s.toBitVec.toNat < 2 ^ m := by omega
    apply d_bx
    intro j hj
    rw [d_bz0]
    by_cases c : j + m < 32
    · rw [d_bsr s (by omega) c]
      exact Nat.testBit_lt_two_pow (Nat.lt_of_lt_of_le e' (Nat.pow_le_pow_right (by omega) (by omega)))
    · rw [d_sh (by omega)]
      unfold d_b
      rw [Int32.toBitVec_shiftRight, BitVec.sshiftRight', d_smod (by omega), BitVec.getLsbD_sshiftRight, if_neg (by omega)]
      rw [BitVec.msb_eq_getLsbD_last]
      have : s.toBitVec.getLsbD 31 = false := Nat.testBit_lt_two_pow h2
      have this2 : s.toBitVec[31] = false := by rw [← BitVec.getLsbD_eq_getElem]; exact this
      simp [this2]
/-- the loop of both finds whether each d and n less d differ -/
theorem d_half_it (s : Int32) {m : Nat} (hm1 : 1 ≤ m) (hm : m < 32) : ∃ r, iter (f10_isHalfOfDifferences_L20 (Int32.ofNat m) s) FU (Int32.ofInt 1) = some r ∧ (r = .inl (Int32.ofInt 0) ∨ (r = .inr () ∧ ∀ d, 1 ≤ d → d < m → d_b s d ≠ d_b s (m - d))) := by
  exact d_it (step := f10_isHalfOfDifferences_L20 (Int32.ofNat m) s) (fun d w => w = Int32.ofNat d ∧ 1 ≤ d ∧ ∀ e, 1 ≤ e → e < d → d_b s e ≠ d_b s (m - e)) _ m (by
      rintro d w hd ⟨rfl, h1, h⟩
      unfold f10_isHalfOfDifferences_L20
      simp only [d_lef hd (by omega), if_false, d_bit s (show d < 32 by omega), d_su]
      rw [← Int32.ofNat_sub m d (by omega)]
      simp only [d_bit s (show m - d < 32 by omega), d_ii]
      by_cases c : d_b s d = d_b s (m - d)
      · rw [if_pos c]; exact Or.inr ⟨_, rfl, Or.inl rfl⟩
      · rw [if_neg c]
        exact Or.inl ⟨_, rfl, rfl, by omega, fun e e1 e2 => by
          by_cases q : e = d
          · rw [q]; exact c
          · exact h e e1 (by omega)⟩) (by
      rintro w ⟨rfl, h1, h⟩
      unfold f10_isHalfOfDifferences_L20
      simp only [d_let, if_true]
      exact ⟨_, rfl, Or.inr ⟨rfl, h⟩⟩) FU 1 (Int32.ofInt 1) hm1 (by unfold FU; omega) ⟨rfl, by omega, fun e e1 e2 => by omega⟩
theorem d_half (s : Int32) {m : Nat} (hm1 : 1 ≤ m) (hm : m < 31) : ∃ v, f10_isHalfOfDifferences (Int32.ofNat m) s = some v ∧ f11_isSet (Int32.ofNat m) s = some v ∧ (v = 0 ∨ (v = Int32.ofInt 1 ∧ d_b s 0 = false ∧ (∀ j, m ≤ j → d_b s j = false) ∧ ∀ d, 1 ≤ d → d < m → d_b s d ≠ d_b s (m - d))) := by
  unfold f10_isHalfOfDifferences f11_isSet
  rw [d_l20]
  by_cases h : s < 0
  · rw [if_pos h, if_pos h]; exact ⟨_, rfl, rfl, Or.inl rfl⟩
  · rw [if_neg h, if_neg h]
    simp only [d_srz h hm, d_band1, d_i0, d_i1, d_one_e (show m < 32 by omega)]
    by_cases c : s < d_one m
    · simp only [if_pos c]
      cases e : d_b s 0 with
      | true =>
        simp only [if_true]
        exact ⟨_, by rw [if_neg (by simp)], rfl, Or.inl rfl⟩
      | false =>
        obtain ⟨r, h1, h2⟩ := d_half_it s hm1 (show m < 32 by omega)
        simp only [if_true, h1, if_neg (show ¬ false = true by simp), obd]
        rcases h2 with rfl | ⟨rfl, h2⟩
        · exact ⟨_, rfl, rfl, Or.inl rfl⟩
        · refine ⟨_, rfl, rfl, Or.inr ⟨rfl, trivial, ?_, h2⟩⟩
          intro j hj
          obtain ⟨g1, g2⟩ := d_nat_tn h
          rw [Int32.lt_iff_toInt_lt, d_one_int hm, g1] at c
          exact Nat.testBit_lt_two_pow (Nat.lt_of_lt_of_le (show s.toBitVec.toNat < 2 ^ m by omega) (Nat.pow_le_pow_right (by omega) hj))
    · simp only [if_neg c]
      cases e : d_b s 0 with
      | true => exact ⟨_, rfl, rfl, Or.inl rfl⟩
      | false => exact ⟨_, rfl, rfl, Or.inl rfl⟩
theorem d_hs_e {s : Int32} {h : Nat} (hh : h ≤ 9) (h0 : d_b s 0 = false) (h1 : ∀ j, 2 * h + 1 ≤ j → d_b s j = false) (h2 : ∀ d, 1 ≤ d → d < 2 * h + 1 → d_b s d ≠ d_b s (2 * h + 1 - d)) : ∃ u, u < 2 ^ h ∧ s = d_hs h u := by
  have tb : ∀ k, (s.toBitVec.toNat >>> (h + 1)).testBit k = d_b s (h + 1 + k) := fun k => by
    rw [Nat.testBit_shiftRight]; rfl
  refine ⟨s.toBitVec.toNat >>> (h + 1), ?_, ?_⟩
  · apply Nat.lt_pow_two_of_testBit
    intro i hi
    rw [tb]
    exact h1 _ (by omega)
  · apply d_bx
    intro j hj
    unfold d_hs
    rw [d_mkb _ _ (by omega)]
    by_cases c : j < 2 * h + 1
    · simp only [c, decide_true, Bool.true_and]
      by_cases c1 : h < j
      · rw [if_pos c1, tb, show h + 1 + (j - h - 1) = j by omega]
      · rw [if_neg c1]
        by_cases c2 : j = 0
        · rw [if_pos c2, c2, h0]
        · rw [if_neg c2, tb]
          have := h2 j (by omega) c
          rw [show h + 1 + (h - j) = 2 * h + 1 - j by omega]
          cases x : d_b s j <;> cases y : d_b s (2 * h + 1 - j) <;> simp_all
    · rw [h1 j (by omega)]; simp [c]
theorem d_rd {h u : Nat} (hh : h ≤ 9) (hu : u < 2 ^ h) {q : Int32} (hq : q.toInt = 1 ∨ q.toInt = 2) : ∃ v, f10_isLawfulRing (Int32.ofNat (2 * h + 1)) (d_hs h u) q = some v ∧ f11_isRoundWell (Int32.ofNat (2 * h + 1)) (d_hs h u) q = some v := by
  have ok := List.all_eq_true.mp (List.all_eq_true.mp d_rd_all h (List.mem_range.mpr (by omega))) u (List.mem_range.mpr hu)
  unfold d_rdOk at ok
  simp only [Bool.and_eq_true, decide_eq_true_eq] at ok
  obtain ⟨⟨⟨o1, o2⟩, o3⟩, o4⟩ := ok
  have hq2 : q = 1 ∨ q = 2 := hq.imp (fun e => Int32.toInt_inj.mp (e.trans (by decide))) (fun e => Int32.toInt_inj.mp (e.trans (by decide)))
  rcases hq2 with rfl | rfl
  · obtain ⟨v, hv⟩ := Option.isSome_iff_exists.mp o1
    exact ⟨v, hv, o3 ▸ hv⟩
  · obtain ⟨v, hv⟩ := Option.isSome_iff_exists.mp o2
    exact ⟨v, hv, o4 ▸ hv⟩
theorem d_ring_odd : (List.range 20).all (fun m => decide (m < 3) || decide (m % 2 = 1) || decide (f10_isRing (Int32.ofNat m) = some 0)) = true := by decide +kernel
theorem round_ok (p s q : Int32) : ∃ r, f10_round z0 0 p s q = some r ∧ f11_round z0 0 p s q = some r := by
  by_cases h : 3 ≤ p.toInt ∧ p.toInt ≤ 19
  · have hp := List.all_eq_true.mp ring_par p (ring_in h)
    rw [Bool.and_eq_true, decide_eq_true_eq] at hp
    obtain ⟨v, hv⟩ := Option.isSome_iff_exists.mp hp.2
    have hvm := hp.1 ▸ hv
    unfold f10_round f11_round
    rw [hv, hvm]
    simp only [obd]
    by_cases hv0 : v = 0
    · simp only [if_pos hv0]; exact ⟨_, rfl, rfl⟩
    · simp only [if_neg hv0, isLaw_x, isLaw_m]
      by_cases hq : q.toInt = 1 ∨ q.toInt = 2
      · simp only [if_pos hq, if_neg (show ¬ (1 : Int32) = 0 by decide)]
        obtain ⟨m, hm1, hm2, rfl⟩ : ∃ m, 3 ≤ m ∧ m ≤ 19 ∧ p = Int32.ofNat m := ⟨p.toInt.toNat, by omega, by omega, by rw [← Int32.toInt_inj, d_tn (by omega)]; omega⟩
        have odd : m % 2 = 1 := by
          have := List.all_eq_true.mp d_ring_odd m (List.mem_range.mpr (by omega))
          simp only [Bool.or_eq_true, decide_eq_true_eq] at this
          rcases this with (g | g) | g
          · omega
          · exact g
          · rw [hv] at g; cases g; exact absurd rfl hv0
        obtain ⟨v2, g1, g2, g3⟩ := d_half s (show 1 ≤ m by omega) (show m < 31 by omega)
        rw [g1, g2]
        simp only
        rcases g3 with rfl | ⟨rfl, g4, g5, g6⟩
        · exact ⟨_, rfl, rfl⟩
        · obtain ⟨hh, rfl⟩ : ∃ hh, m = 2 * hh + 1 := ⟨m / 2, by omega⟩
          obtain ⟨u, hu, rfl⟩ := d_hs_e (show hh ≤ 9 by omega) g4 g5 g6
          obtain ⟨v3, k1, k2⟩ := d_rd (show hh ≤ 9 by omega) hu hq
          simp only [if_neg (show ¬ Int32.ofInt 1 = 0 by decide), k1, k2]
          by_cases c : v3 = 0
          · simp only [if_pos c]; exact ⟨_, rfl, rfl⟩
          · simp only [if_neg c]; exact ⟨_, rfl, rfl⟩
      · simp only [if_neg hq]; exact ⟨_, rfl, rfl⟩
  · refine ⟨Int32.ofInt (-1), ?_, ?_⟩
    · unfold f10_round
      rw [ring_x0 h]
      rfl
    · unfold f11_round
      rw [ring_m0 h]
      rfl
theorem rd_x (s : HM) (a : Nat) (p t q : Int32) : f10_round s a p t q = f10_round z0 0 p t q := rfl
theorem rd_m (s : HM) (a : Nat) (p t q : Int32) : f11_round s a p t q = f11_round z0 0 p t q := rfl
theorem sD_round (R : (Nat → Option HO) → (Nat → Option HO) → Nat → Prop) (a ma : Nat) : S_round R a ma := by
  intro X M n p1 p2 p3 hR
  obtain ⟨r, h1, h2⟩ := round_ok p1 p2 p3
  exact ps_step (f := f10_round (X, n) a p1 p2 p3) (g := fun k => f11_round (M, k) ma p1 p2 p3) ((rd_x _ _ _ _ _).trans h1) (fun k => (rd_m _ _ _ _ _).trans h2) hR
