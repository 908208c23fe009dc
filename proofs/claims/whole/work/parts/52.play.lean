/-! PURE: all have played anew -/
def d_ix (p q : Nat) : Nat := q * (q - 1) / 2 + p
theorem t_ix {k : Nat} (hk : k < 28) {p q : Nat} (hpq : p < q) (hq : q < 8) : (d_ix p q = k) = (p = tL k ∧ q = tG k) := by
  apply propext
  exact (show ∀ k, k < 28 → ∀ q, q < 8 → ∀ p, p < q → (d_ix p q = k ↔ p = tL k ∧ q = tG k) by decide +kernel) k hk q hq p hpq
theorem t_ixm {n p q : Nat} (hn : n ≤ 8) (hpq : p < q) (hq : q < n) : d_ix p q < n * (n - 1) / 2 :=
  (show ∀ n, n < 9 → ∀ q, q < n → ∀ p, p < q → d_ix p q < n * (n - 1) / 2 by decide +kernel) n (by omega) q hq p hpq
def d_pb (w : Int32) (k p q : Nat) : Bool := if p < q then decide (d_ix p q < k) && d_b w (d_ix p q) else if q < p then decide (d_ix q p < k) && !d_b w (d_ix q p) else false
theorem d_lts (x k : Nat) : decide (x < k + 1) = (decide (x < k) || decide (x = k)) := by
  by_cases h : x < k
  · simp [h]; omega
  · by_cases h2 : x = k
    · simp [h2]
    · simp [h, h2]; omega
theorem d_pb_s (w : Int32) {k p q : Nat} (hk : k < 28) (hp : p < 8) (hq : q < 8) : d_pb w (k + 1) p q = (d_pb w k p q || ((decide (p = tL k) && decide (q = tG k)) && d_b w k) || ((decide (p = tG k) && decide (q = tL k)) && !d_b w k)) := by
  have h3 := (t_e hk).2.2.1
  unfold d_pb
  by_cases c : p < q
  · have e := t_ix hk c hq
    rw [if_pos c, if_pos c, d_lts]
    have n1 : (decide (p = tG k) && decide (q = tL k)) = false := by
      by_cases z : p = tG k
      · rw [decide_eq_false (show ¬ q = tL k by omega)]; simp
      · rw [decide_eq_false z]; rfl
    rw [n1]
    by_cases z : d_ix p q = k
    · have z2 := e ▸ z
      rw [z, decide_eq_true z2.1, decide_eq_true z2.2]
      simp
    · have z2 : ¬ (p = tL k ∧ q = tG k) := fun y => z (e.symm ▸ y)
      have n2 : (decide (p = tL k) && decide (q = tG k)) = false := by
        by_cases y : p = tL k
        · rw [decide_eq_false (show ¬ q = tG k from fun x => z2 ⟨y, x⟩)]; simp
        · rw [decide_eq_false y]; rfl
      rw [n2, decide_eq_false z]; simp
  · rw [if_neg c, if_neg c]
    have n1 : (decide (p = tL k) && decide (q = tG k)) = false := by
      by_cases z : p = tL k
      · rw [decide_eq_false (show ¬ q = tG k by omega)]; simp
      · rw [decide_eq_false z]; rfl
    rw [n1]
    by_cases c2 : q < p
    · have e := t_ix hk c2 hp
      rw [if_pos c2, if_pos c2, d_lts]
      by_cases z : d_ix q p = k
      · have z2 := e ▸ z
        rw [z, decide_eq_true z2.1, decide_eq_true z2.2]
        simp
      · have z2 : ¬ (q = tL k ∧ p = tG k) := fun y => z (e.symm ▸ y)
        have n2 : (decide (p = tG k) && decide (q = tL k)) = false := by
          by_cases y : p = tG k
          · rw [decide_eq_false (show ¬ q = tL k from fun x => z2 ⟨x, y⟩)]; simp
          · rw [decide_eq_false y]; rfl
        rw [n2, decide_eq_false z]; simp
    · rw [if_neg c2, if_neg c2]
      have n2 : (decide (p = tG k) && decide (q = tL k)) = false := by
        by_cases y : p = tG k
        · rw [decide_eq_false (show ¬ q = tL k by omega)]; simp
        · rw [decide_eq_false y]; rfl
      rw [n2]; rfl
theorem d_uo (B : Nat → Int32) {i j : Nat} (hi : i < 32) (p q : Nat) : d_b (upd B j (B j ||| d_one i) p) q = (d_b (B p) q || (decide (p = j) && decide (q = i))) := by
  unfold upd
  by_cases e : p = j
  · rw [if_pos e, d_bor, d_bone hi, e]; simp
  · rw [if_neg e]; simp [e]
theorem d_upd_ne (B : Nat → Int32) {j p : Nat} (x : Int32) (h : p ≠ j) : upd B j x p = B p := if_neg h
section XPLAY
variable {X : Nat → Option HO} {ad n nx : Nat} {P K F : Nat → Nat} {lw : Int32}
theorem x_play (L : d_LX X ad P K F n lw) (B : Nat → Int32) (w : Int32) : ∃ B', f2_play (d_cB X ad B, nx) ad w = some (d_cB X ad B', nx) ∧ d_TB n B' ∧ ∀ p q, p < q → q < n → d_b (B' p) q = d_b w (d_ix p q) := by
  have hn := L.2.2
  have h28 := d_28 hn
  let B0 : Nat → Nat → Int32 := fun i p => if p < i then Int32.ofInt 0 else B p
  have lp1 : iter (f2_play_L2 ad w) FU (Int32.ofInt 0, (d_cB X ad B, nx)) = some (d_cB X ad (B0 n), nx) := by
    have := d_for (step := f2_play_L2 ad w) (fun i => (Int32.ofNat i, ((d_cB X ad (B0 i), nx) : HM))) (d_cB X ad (B0 n), nx) n 0 (by omega) (by omega) (by
      intro i _ hi
      unfold f2_play_L2
      simp only [x_n L, obd, d_lef hi (by omega), if_false, x_f1 L, orf, x_st (show i < 8 by omega), d_su]
      congr 6
      funext j
      unfold upd
      show (if j = i then Int32.ofInt 0 else if j < i then Int32.ofInt 0 else B j) = if j < i + 1 then Int32.ofInt 0 else B j
      by_cases z : j = i
      · rw [if_pos z, if_pos (by omega)]
      · rw [if_neg z]
        by_cases z2 : j < i
        · rw [if_pos z2, if_pos (by omega)]
        · rw [if_neg z2, if_neg (by omega)]) (by
      unfold f2_play_L2
      simp only [x_n L, obd, d_let, if_true])
    have e0 : B0 0 = B := by funext p; show (if p < 0 then _ else B p) = B p; rw [if_neg (by omega)]
    rw [e0] at this
    exact this
  obtain ⟨r, g1, B', rfl, g2, g3⟩ := d_it (step := f2_play_L25 ad w) (fun k st => ∃ B', st = (Int32.ofNat k, ((d_cB X ad B', nx) : HM)) ∧ (∀ p, p < n → ∀ q, n ≤ q → d_b (B' p) q = false) ∧ ∀ p q, p < n → q < n → d_b (B' p) q = d_pb w k p q) (fun r => ∃ B', r = ((d_cB X ad B', nx) : HM) ∧ (∀ p, p < n → ∀ q, n ≤ q → d_b (B' p) q = false) ∧ ∀ p q, p < n → q < n → d_b (B' p) q = d_pb w (n * (n - 1) / 2) p q) (n * (n - 1) / 2) (by
      rintro k st hk ⟨B', rfl, t1, t2⟩
      obtain ⟨n1, n2⟩ := t_n hn hk
      obtain ⟨h1, h2, h3, h4⟩ := t_e n2
      unfold f2_play_L25
      simp only [x_c L, x_matches L, obd, d_lef hk (by omega), if_false, d_bit _ (show k < 32 by omega), d_i0, x_f1 L, d_inb n2 (show 28 ≤ 1000 by omega), ogd, orf, d_nn (show k < 2147483648 by omega), h1, h2, x_ld (show tL k < 8 by omega), x_ld h4, x_st (show tL k < 8 by omega), x_st h4, d_one_e (show tL k < 32 by omega), d_one_e (show tG k < 32 by omega), d_su]
      cases e : d_b w k with
      | false =>
        refine Or.inl ⟨_, if_pos rfl, _, rfl, fun p hp q hq => ?_, fun p q hp hq => ?_⟩
        · rw [d_uo B' (show tL k < 32 by omega), t1 p hp q hq, decide_eq_false (show ¬ q = tL k by omega)]; simp
        · rw [d_uo B' (show tL k < 32 by omega), t2 p q hp hq, d_pb_s w n2 (by omega) (by omega), e]; simp
      | true =>
        refine Or.inl ⟨_, if_neg (by simp), _, rfl, fun p hp q hq => ?_, fun p q hp hq => ?_⟩
        · rw [d_uo B' (show tG k < 32 by omega), t1 p hp q hq, decide_eq_false (show ¬ q = tG k by omega)]; simp
        · rw [d_uo B' (show tG k < 32 by omega), t2 p q hp hq, d_pb_s w n2 (by omega) (by omega), e]; simp) (by
      rintro st ⟨B', rfl, t1, t2⟩
      unfold f2_play_L25
      simp only [x_c L, x_matches L, obd, d_let, if_true]
      exact ⟨_, rfl, B', rfl, t1, t2⟩) FU 0 (Int32.ofInt 0, ((d_cB X ad (B0 n), nx) : HM)) (by omega) (by unfold FU; omega) ⟨B0 n, rfl, fun p hp q hq => by
      show d_b (if p < n then Int32.ofInt 0 else B p) q = false
      rw [if_pos hp, d_bz], fun p q hp hq => by
      show d_b (if p < n then Int32.ofInt 0 else B p) q = _
      rw [if_pos hp, d_bz]
      unfold d_pb
      simp⟩
  refine ⟨B', ?_, ⟨g2, fun i hi => ?_, fun i j hi hj e => ?_⟩, fun p q hpq hq => ?_⟩
  · unfold f2_play
    rw [lp1]
    simp only [obd, g1]
  · rw [g3 i i hi hi]; unfold d_pb; simp
  · rw [g3 j i hj hi, g3 i j hi hj]
    unfold d_pb
    by_cases c : i < j
    · rw [if_neg (show ¬ j < i by omega), if_pos c, if_pos c, decide_eq_true (t_ixm hn c hj)]; simp
    · rw [if_pos (show j < i by omega), if_neg c, if_pos (show j < i by omega), decide_eq_true (t_ixm hn (show j < i by omega) hi)]; simp
  · rw [g3 p q (by omega) hq]
    unfold d_pb
    rw [if_pos hpq, decide_eq_true (t_ixm hn hpq hq)]; simp
end XPLAY
/-- the place of a match in the model's order -/
def d_im (n p q : Nat) : Nat := d_sum p (fun i => n - (i + 1)) + (q - (p + 1))
theorem d_imm {n p q : Nat} (hn : n ≤ 8) (hpq : p < q) (hq : q < n) : d_im n p q < n * (n - 1) / 2 :=
  (show ∀ n, n < 9 → ∀ q, q < n → ∀ p, p < q → d_im n p q < n * (n - 1) / 2 by decide +kernel) n (by omega) q hq p hpq
section MPLAY
variable {Z : Nat → Option HO} {ma n nx : Nat} {S : Nat → Int32} {K F : Nat → Nat} {lw : Int32}
theorem m_plays (h : d_MZ Z ma) (B : Nat → Int32) (hS : d_MS S n K F B lw) (hn : n ≤ 8) (T : d_TB n B) (w : Int32) : ∃ S' B', f11_plays (d_mS Z ma S, nx) ma w = some (d_mS Z ma S', nx) ∧ d_MS S' n K F B' lw ∧ d_TB n B' ∧ ∀ p q, p < q → q < n → d_b (B' p) q = d_b w (d_im n p q) := by
  have h28 := d_28 hn
  obtain ⟨r, g1, S', B', rfl, g2, g3, g4⟩ := d_it (step := f11_plays_L4 ma w) (fun i st => ∃ S' B', st = (Int32.ofNat (d_sum i (fun i => n - (i + 1))), Int32.ofNat i, ((d_mS Z ma S', nx) : HM)) ∧ d_MS S' n K F B' lw ∧ d_TB n B' ∧ ∀ p q, p < q → q < n → p < i → d_b (B' p) q = d_b w (d_im n p q)) (fun r => ∃ S' B', r = ((d_mS Z ma S', nx) : HM) ∧ d_MS S' n K F B' lw ∧ d_TB n B' ∧ ∀ p q, p < q → q < n → d_b (B' p) q = d_b w (d_im n p q)) n (by
      rintro i st hi ⟨S', B', rfl, t1, t2, t3⟩
      unfold f11_plays_L4
      simp only [m_f0 h, obd, orf, m_ld0, t1.1, d_lef hi (by omega), if_false, d_su]
      obtain ⟨r, g1, S2, B2, rfl, g2, g3, g4⟩ := d_it (step := f11_plays_L19 ma w (Int32.ofNat i)) (fun j st => ∃ S' B', st = (Int32.ofNat (d_im n i j), Int32.ofNat j, ((d_mS Z ma S', nx) : HM)) ∧ i + 1 ≤ j ∧ d_MS S' n K F B' lw ∧ d_TB n B' ∧ ∀ p q, p < q → q < n → (p < i ∨ p = i ∧ q < j) → d_b (B' p) q = d_b w (d_im n p q)) (fun r => ∃ S' B', r = (Int32.ofNat (d_sum (i + 1) (fun i => n - (i + 1))), ((d_mS Z ma S', nx) : HM)) ∧ d_MS S' n K F B' lw ∧ d_TB n B' ∧ ∀ p q, p < q → q < n → p < i + 1 → d_b (B' p) q = d_b w (d_im n p q)) n (by
          rintro j st hj ⟨S', B', rfl, hij, t1, t2, t3⟩
          have im : d_im n i j < 28 := by have := d_imm hn (show i < j by omega) hj; omega
          have ims : d_im n i j + 1 = d_im n i (j + 1) := by unfold d_im; omega
          unfold f11_plays_L19
          simp only [m_f0 h, obd, orf, m_ld0, t1.1, d_lef hj (by omega), if_false, d_bit _ (show d_im n i j < 32 by omega), d_i1, m_c h, d_su, ims]
          cases e : d_b w (d_im n i j) with
          | true =>
            obtain ⟨S3, q1, q2⟩ := m_beats (nx := nx) h t1 hn hi hj
            rw [if_pos rfl, q1]
            refine Or.inl ⟨_, rfl, S3, _, rfl, by omega, q2, d_TB_win hn t2 hi hj (by omega), fun p q hpq hq hc => ?_⟩
            rw [d_win_up hn hi hj (by omega) hpq hq]
            by_cases z : p = i ∧ q = j
            · rw [if_pos z, z.1, z.2, e]
            · rw [if_neg z, if_neg (by omega)]; exact t3 p q hpq hq (by omega)
          | false =>
            obtain ⟨S3, q1, q2⟩ := m_beats (nx := nx) h t1 hn hj hi
            rw [if_neg (by simp), q1]
            refine Or.inl ⟨_, rfl, S3, _, rfl, by omega, q2, d_TB_win hn t2 hj hi (by omega), fun p q hpq hq hc => ?_⟩
            rw [d_win_up hn hj hi (by omega) hpq hq, if_neg (by omega)]
            by_cases z : p = i ∧ q = j
            · rw [if_pos z, z.1, z.2, e]
            · rw [if_neg z]; exact t3 p q hpq hq (by omega)) (by
          rintro st ⟨S', B', rfl, hij, t1, t2, t3⟩
          unfold f11_plays_L19
          simp only [m_f0 h, obd, orf, m_ld0, t1.1, d_let, if_true]
          exact ⟨_, rfl, S', B', rfl, t1, t2, fun p q hpq hq hc => t3 p q hpq hq (by omega)⟩) FU (i + 1) (Int32.ofNat (d_sum i (fun i => n - (i + 1))), Int32.ofNat (i + 1), ((d_mS Z ma S', nx) : HM)) (by omega) (by unfold FU; omega) ⟨S', B', by unfold d_im; rw [show i + 1 - (i + 1) = 0 by omega]; rfl, by omega, t1, t2, fun p q hpq hq hc => t3 p q hpq hq (by omega)⟩
      rw [g1]
      exact Or.inl ⟨_, rfl, S2, B2, rfl, g2, g3, g4⟩) (by
      rintro st ⟨S', B', rfl, t1, t2, t3⟩
      unfold f11_plays_L4
      simp only [m_f0 h, obd, orf, m_ld0, t1.1, d_let, if_true]
      exact ⟨_, rfl, S', B', rfl, t1, t2, fun p q hpq hq => t3 p q hpq hq (by omega)⟩) FU 0 (Int32.ofInt 0, Int32.ofInt 0, ((d_mS Z ma S, nx) : HM)) (by omega) (by unfold FU; omega) ⟨S, B, rfl, hS, T, fun p q hpq hq hc => by omega⟩
  refine ⟨S', B', ?_, g2, g3, g4⟩
  unfold f11_plays
  rw [g1]
  rfl
theorem m_matches (h : d_MZ Z ma) {B : Nat → Int32} (hS : d_MS S n K F B lw) (hn : n ≤ 8) : f11_matches (d_mS Z ma S, nx) ma = some (Int32.ofNat (n * (n - 1) / 2)) := by
  unfold f11_matches
  simp only [m_f0 h, obd, orf, m_ld0, hS.1, onz, if_neg (show ¬ Int32.ofInt 2 = 0 by decide), d_half_n hn]
end MPLAY
