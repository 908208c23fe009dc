/-! PURE: fresh -/
theorem d_one_n {m : Nat} (h : m < 31) : d_one m = Int32.ofNat (2 ^ m) := (show ∀ m, m < 31 → d_one m = Int32.ofNat (2 ^ m) by decide +kernel) m h
theorem x_newc {X : Nat → Option HO} {ad n nx : Nat} {P K F : Nat → Nat} {lw : Int32} (L : d_LX X ad P K F (n + 1) lw) (B : Nat → Int32) (T : d_TB (n + 1) B) (w : Int32) :
    ∃ B', f2_newcomerBeats (d_cB X ad B, nx) ad (Int32.ofNat n) w = some (d_cB X ad B', nx) ∧ d_TB (n + 1) B' ∧ ∀ p q, p < q → q < n + 1 → d_b (B' p) q = if q < n then d_b (B p) q else !d_b w p := by
  have hn : n + 1 ≤ 8 := L.2.2
  obtain ⟨r, h1, B', rfl, h2, h3⟩ := d_it (step := f2_newcomerBeats_L2 ad (Int32.ofNat n) w) (fun k st => ∃ B', st = (Int32.ofNat k, ((d_cB X ad B', nx) : HM)) ∧ d_TB (n + 1) B' ∧ ∀ p q, p < q → q < n + 1 → d_b (B' p) q = if q < n then d_b (B p) q else if p < k then !d_b w p else d_b (B p) q) (fun r => ∃ B', r = ((d_cB X ad B', nx) : HM) ∧ d_TB (n + 1) B' ∧ ∀ p q, p < q → q < n + 1 → d_b (B' p) q = if q < n then d_b (B p) q else !d_b w p) n (by
      rintro k st hk ⟨B', rfl, t1, t2⟩
      unfold f2_newcomerBeats_L2
      simp only [d_lef hk (by omega), if_false, d_bit _ (show k < 32 by omega), d_i0, x_c L, x_win L (show k < 8 by omega) (show n < 8 by omega), x_win L (show n < 8 by omega) (show k < 8 by omega), obd, d_su]
      cases e : d_b w k with
      | false =>
        refine Or.inl ⟨_, if_pos rfl, _, rfl, d_TB_win hn t1 (show k < n + 1 by omega) (show n < n + 1 by omega) (by omega), fun p q hpq hq => ?_⟩
        rw [d_win_up hn (show k < n + 1 by omega) (show n < n + 1 by omega) (by omega) hpq hq, t2 p q hpq hq]
        by_cases c1 : q < n
        · rw [if_neg (by omega), if_neg (by omega), if_pos c1, if_pos c1]
        · rw [if_neg c1, if_neg c1]
          by_cases c2 : p = k
          · rw [if_pos ⟨c2, by omega⟩, if_pos (by omega), c2, e]; rfl
          · rw [if_neg (by omega), if_neg (by omega)]
            by_cases c3 : p < k
            · rw [if_pos c3, if_pos (by omega)]
            · rw [if_neg c3, if_neg (by omega)]
      | true =>
        refine Or.inl ⟨_, if_neg (by simp), _, rfl, d_TB_win hn t1 (show n < n + 1 by omega) (show k < n + 1 by omega) (by omega), fun p q hpq hq => ?_⟩
        rw [d_win_up hn (show n < n + 1 by omega) (show k < n + 1 by omega) (by omega) hpq hq, t2 p q hpq hq]
        by_cases c1 : q < n
        · rw [if_neg (by omega), if_neg (by omega), if_pos c1, if_pos c1]
        · rw [if_neg c1, if_neg c1, if_neg (by omega)]
          by_cases c2 : p = k
          · rw [if_pos ⟨c2, by omega⟩, if_pos (by omega), c2, e]; rfl
          · rw [if_neg (by omega)]
            by_cases c3 : p < k
            · rw [if_pos c3, if_pos (by omega)]
            · rw [if_neg c3, if_neg (by omega)]) (by
      rintro st ⟨B', rfl, t1, t2⟩
      unfold f2_newcomerBeats_L2
      simp only [d_let, if_true]
      refine ⟨_, rfl, B', rfl, t1, fun p q hpq hq => ?_⟩
      rw [t2 p q hpq hq]
      by_cases c1 : q < n
      · rw [if_pos c1, if_pos c1]
      · rw [if_neg c1, if_neg c1, if_pos (by omega)]) FU 0 (Int32.ofInt 0, ((d_cB X ad B, nx) : HM)) (by omega) (by unfold FU; omega) ⟨B, rfl, T, fun p q hpq hq => by
      by_cases c1 : q < n
      · rw [if_pos c1]
      · rw [if_neg c1, if_neg (by omega)]⟩
  refine ⟨B', ?_, h2, h3⟩
  unfold f2_newcomerBeats
  rw [h1]
  rfl
theorem d_sB_b {n : Nat} (B : Nat → Int32) (hn : n ≤ 7) {p q : Nat} (hpq : p < q) (hq : q < n + 1) : d_b (d_sB n B p) q = (d_b (B p) q || decide (q = n)) := by
  unfold d_sB
  rw [if_pos (by omega), d_bor, d_bone (by omega)]
theorem m_newc {Z : Nat → Option HO} {ma n nx : Nat} {S : Nat → Int32} {K F : Nat → Nat} {lw : Int32} (h : d_MZ Z ma) (B : Nat → Int32) (hS : d_MS S (n + 1) K F B lw) (hn : n ≤ 7) (T : d_TB (n + 1) B) (ho : ∀ p, p < n → d_b (B p) n = true) (w p1 p2 p3 x5 x6 : Int32) :
    ∃ S' B', iter (f11_fresh_L76 ma p1 p2 p3 (Int32.ofNat n) x5 x6 w) FU (Int32.ofInt 0, (d_mS Z ma S, nx)) = some (d_mS Z ma S', nx) ∧ d_MS S' (n + 1) K F B' lw ∧ d_TB (n + 1) B' ∧ ∀ p q, p < q → q < n + 1 → d_b (B' p) q = if q < n then d_b (B p) q else !d_b w p := by
  obtain ⟨r, h1, S', B', rfl, h0, h2, h3⟩ := d_it (step := f11_fresh_L76 ma p1 p2 p3 (Int32.ofNat n) x5 x6 w) (fun k st => ∃ S' B', st = (Int32.ofNat k, ((d_mS Z ma S', nx) : HM)) ∧ d_MS S' (n + 1) K F B' lw ∧ d_TB (n + 1) B' ∧ ∀ p q, p < q → q < n + 1 → d_b (B' p) q = if q < n then d_b (B p) q else if p < k then !d_b w p else true) (fun r => ∃ S' B', r = ((d_mS Z ma S', nx) : HM) ∧ d_MS S' (n + 1) K F B' lw ∧ d_TB (n + 1) B' ∧ ∀ p q, p < q → q < n + 1 → d_b (B' p) q = if q < n then d_b (B p) q else !d_b w p) n (by
      rintro k st hk ⟨S', B', rfl, t0, t1, t2⟩
      unfold f11_fresh_L76
      simp only [d_lef hk (by omega), if_false, d_bit _ (show k < 32 by omega), d_i1, d_su]
      cases e : d_b w k with
      | false =>
        refine Or.inl ⟨_, if_neg (by simp), S', B', rfl, t0, t1, fun p q hpq hq => ?_⟩
        rw [t2 p q hpq hq]
        by_cases c1 : q < n
        · rw [if_pos c1, if_pos c1]
        · rw [if_neg c1, if_neg c1]
          by_cases c2 : p = k
          · rw [if_neg (by omega), if_pos (by omega), c2, e]; rfl
          · by_cases c3 : p < k
            · rw [if_pos c3, if_pos (by omega)]
            · rw [if_neg c3, if_neg (by omega)]
      | true =>
        obtain ⟨S2, g1, g2⟩ := m_beats (nx := nx) h t0 (show n + 1 ≤ 8 by omega) (show n < n + 1 by omega) (show k < n + 1 by omega)
        simp only [if_true, m_c h, g1, obd]
        refine Or.inl ⟨_, rfl, S2, _, rfl, g2, d_TB_win (show n + 1 ≤ 8 by omega) t1 (show n < n + 1 by omega) (show k < n + 1 by omega) (by omega), fun p q hpq hq => ?_⟩
        rw [d_win_up (show n + 1 ≤ 8 by omega) (show n < n + 1 by omega) (show k < n + 1 by omega) (by omega) hpq hq, t2 p q hpq hq]
        by_cases c1 : q < n
        · rw [if_neg (by omega), if_neg (by omega), if_pos c1, if_pos c1]
        · rw [if_neg c1, if_neg c1, if_neg (by omega)]
          by_cases c2 : p = k
          · rw [if_pos ⟨c2, by omega⟩, if_pos (by omega), c2, e]; rfl
          · rw [if_neg (by omega)]
            by_cases c3 : p < k
            · rw [if_pos c3, if_pos (by omega)]
            · rw [if_neg c3, if_neg (by omega)]) (by
      rintro st ⟨S', B', rfl, t0, t1, t2⟩
      unfold f11_fresh_L76
      simp only [d_let, if_true]
      refine ⟨_, rfl, S', B', rfl, t0, t1, fun p q hpq hq => ?_⟩
      rw [t2 p q hpq hq]
      by_cases c1 : q < n
      · rw [if_pos c1, if_pos c1]
      · rw [if_neg c1, if_neg c1, if_pos (by omega)]) FU 0 (Int32.ofInt 0, ((d_mS Z ma S, nx) : HM)) (by omega) (by unfold FU; omega) ⟨S, B, rfl, hS, T, fun p q hpq hq => by
      by_cases c1 : q < n
      · rw [if_pos c1]
      · rw [if_neg c1, if_neg (by omega), show q = n by omega]; exact ho p (by omega)⟩
  exact ⟨S', B', h1, h0, h2, h3⟩
/-- the newcomer has beaten those of w -/
def d_fu (n : Nat) (B : Nat → Int32) (w : Nat) : Nat → Nat → Bool := fun p q => if q < n then d_b (B p) q else !d_b (Int32.ofNat w) p
def d_ff (n : Nat) (K F : Nat → Nat) (B : Nat → Int32) (lw : Int32) (w : Nat) : Bool := d_lw (n + 1) K F (d_ub (n + 1) (d_fu n B w)) lw
def d_lo (n w : Nat) : Int32 := Int32.ofNat n - Int32.ofNat (d_pc (Int32.ofNat w))
theorem d_lo_0 {n w : Nat} (hn : n < 8) (hw : w < 2 ^ n) : ¬ d_lo n w < 0 ∧ d_sm (Int32.ofNat w) := by
  have hw2 : w < 256 := Nat.lt_of_lt_of_le hw (Nat.le_trans (Nat.pow_le_pow_right (by omega) (show n ≤ 8 by omega)) (by decide))
  refine ⟨(show ∀ n, n < 8 → ∀ w, w < 2 ^ n → ¬ d_lo n w < 0 by decide +kernel) n hn w hw, fun j hj => ?_⟩
  by_cases c : j < 32
  · exact (show ∀ w, w < 256 → ∀ j, j < 32 → 8 ≤ j → d_b (Int32.ofNat w) j = false by decide +kernel) w hw2 j c hj
  · exact d_b32 _ (by omega)
def d_frs (f : Nat → Bool) (n : Nat) : Nat → Int32 × Int32
  | 0 => (Int32.ofInt 0, (Int8.ofInt (-4)).toInt32)
  | w + 1 => if f w = true then ((d_frs f n w).1 + Int32.ofInt 1, if (d_frs f n w).2 = (Int8.ofInt (-4)).toInt32 then d_lo n w else if (d_frs f n w).2 ≤ d_lo n w then (d_frs f n w).2 else d_lo n w) else d_frs f n w
theorem d_frs_t {f : Nat → Bool} {n w : Nat} (h : f w = true) : d_frs f n (w + 1) = ((d_frs f n w).1 + Int32.ofInt 1, if (d_frs f n w).2 = (Int8.ofInt (-4)).toInt32 then d_lo n w else if (d_frs f n w).2 ≤ d_lo n w then (d_frs f n w).2 else d_lo n w) := if_pos h
theorem d_frs_f {f : Nat → Bool} {n w : Nat} (h : f w = false) : d_frs f n (w + 1) = d_frs f n w := if_neg (by rw [h]; simp)
theorem d_frs_ok (f : Nat → Bool) {n : Nat} (hn : n < 8) : ∀ w, w ≤ 2 ^ n → ((d_frs f n w).2 < 0) = ((d_frs f n w).2 = (Int8.ofInt (-4)).toInt32)
  | 0, _ => by
    show ((Int8.ofInt (-4)).toInt32 < 0) = ((Int8.ofInt (-4)).toInt32 = (Int8.ofInt (-4)).toInt32)
    simp
  | w + 1, hw => by
    have ih := d_frs_ok f hn w (by omega)
    have nn : ∀ x : Int32, ¬ x < 0 → (x < 0) = (x = (Int8.ofInt (-4)).toInt32) := fun x h => by
      apply propext
      exact ⟨fun g => absurd g h, fun g => absurd (by rw [g]; decide) h⟩
    cases e : f w with
    | false => rw [d_frs_f e]; exact ih
    | true =>
      rw [d_frs_t e]
      apply nn
      have l0 := (d_lo_0 hn (show w < 2 ^ n by omega)).1
      show ¬ (if (d_frs f n w).2 = (Int8.ofInt (-4)).toInt32 then d_lo n w else if (d_frs f n w).2 ≤ d_lo n w then (d_frs f n w).2 else d_lo n w) < 0
      by_cases c1 : (d_frs f n w).2 = (Int8.ofInt (-4)).toInt32
      · rw [if_pos c1]; exact l0
      · rw [if_neg c1]
        by_cases c2 : (d_frs f n w).2 ≤ d_lo n w
        · rw [if_pos c2, ih]; exact c1
        · rw [if_neg c2]; exact l0
