/-! PURE: statements are followed, the model -/
section MFOLLOW
variable {Z : Nat → Option HO} {ma nx d m i n : Nat} {hi th lt lp sd : Int32} {u S : Nat → Int32} {K F : Nat → Nat} {B : Nat → Int32} {lw : Int32}
theorem m_follow (hS : d_MS S n K F B lw) (hG : d_good n B lw) {c : Int32} {D p q : Nat} (hD : d_dg c = some D) (h1 : 1 ≤ D → u 0 = Int32.ofNat p ∧ p ≤ 9) (h2 : 2 ≤ D → u 1 = Int32.ofNat q ∧ q ≤ 9) :
    (d_ap c p q (n, K, F, B, lw) = none ∧ f11_comesTold (d_rs Z ma hi th lt lp sd d m i u S, nx) ma c = some (Int32.ofInt 0, (d_rs Z ma hi th lt lp sd d m i u S, nx))) ∨ ∃ n' K' F' B' lw', d_ap c p q (n, K, F, B, lw) = some (n', K', F', B', lw') ∧ d_good n' B' lw' ∧ ∃ S', f11_comesTold (d_rs Z ma hi th lt lp sd d m i u S, nx) ma c = some (Int32.ofInt 1, (d_rs Z ma hi th lt lp sd d m i u S', nx)) ∧ d_MS S' n' K' F' B' lw' := by
  have hn := hG.2.1
  have n0 : hald (d_rs Z ma hi th lt lp sd d m i u S, nx) (ma + 11) (Int32.ofInt 0) = some (u 0) := q_ld (k := 0) (by omega)
  have n1 : hald (d_rs Z ma hi th lt lp sd d m i u S, nx) (ma + 11) (Int32.ofInt 1) = some (u 1) := q_ld (k := 1) (by omega)
  have s0 : hald (d_rs Z ma hi th lt lp sd d m i u S, nx) (ma + 1) (Int32.ofInt 0) = some (Int32.ofNat n) := (d_ild _ q_1 (i := 0) (by omega) (by omega)).trans (by rw [hS.1])
  have ZZ := q_Z (Z := Z) (ma := ma) (d := d) (m := m) (i := i) (hi := hi) (th := th) (lt := lt) (lp := lp) (sd := sd) (u := u)
  rcases d_dg_e hD with ⟨rfl, rfl⟩ | ⟨rfl, rfl⟩ | ⟨rfl, rfl⟩ | ⟨rfl, rfl⟩
  · -- the law
    obtain ⟨e0, hp⟩ := h1 (by omega)
    have tn : (Int32.ofNat p).toInt = p := d_tn (by omega)
    by_cases c : p = 1 ∨ p = 2
    · refine Or.inr ⟨n, K, F, B, Int32.ofNat p, ?_, ⟨hG.1, hn, by rcases c with rfl | rfl <;> decide⟩, upd S 1 (Int32.ofNat p), ?_, ?_⟩
      · unfold d_ap
        rw [if_pos rfl, if_pos c]
      · have st : hast (d_rs Z ma hi th lt lp sd d m i u S, nx) (ma + 1) (Int32.ofInt 1) (Int32.ofNat p) = some (d_rs Z ma hi th lt lp sd d m i u (upd S 1 (Int32.ofNat p)), nx) := m_st1
        unfold f11_comesTold
        simp only [q_f15, obd, orf, n0, e0, if_true, isLaw_m]
        rw [if_pos (show (Int32.ofNat p).toInt = 1 ∨ (Int32.ofNat p).toInt = 2 by rw [tn]; omega)]
        simp only [if_neg (show ¬ (1 : Int32) = 0 by decide), q_f0, st]
      · refine ⟨(if_neg (by omega)).trans hS.1, if_pos rfl, fun j hj => ⟨(if_neg (by omega)).trans (hS.2.2 j hj).1, (if_neg (by omega)).trans (hS.2.2 j hj).2.1, (if_neg (by omega)).trans (hS.2.2 j hj).2.2⟩⟩
    · refine Or.inl ⟨?_, ?_⟩
      · unfold d_ap
        rw [if_pos rfl, if_neg c]
      · unfold f11_comesTold
        simp only [q_f15, obd, orf, n0, e0, if_true, isLaw_m]
        rw [if_neg (show ¬ ((Int32.ofNat p).toInt = 1 ∨ (Int32.ofNat p).toInt = 2) by rw [tn]; omega)]
        simp only [if_true]
  · -- one more
    obtain ⟨e0, hp⟩ := h1 (by omega)
    obtain ⟨e1, hq⟩ := h2 (by omega)
    have l8 : ((Int8.ofInt 8).toInt32 ≤ Int32.ofNat p) = (8 ≤ p) := d_le (i := 8) (by omega) (show p < 2147483648 by omega)
    have l7 : (Int32.ofNat n = (Int8.ofInt 7).toInt32) = (n = 7) := d_eq (j := 7) (show n < 2147483648 by omega) (by omega)
    by_cases c1 : p < 8
    · by_cases c2 : n < 7
      · obtain ⟨S', y1, y2⟩ := m_joins (nx := nx) (k := p) (f := q) ZZ hS (show n ≤ 7 by omega)
        have y1' : f11_joins (d_rs Z ma hi th lt lp sd d m i u S, nx) ma (Int32.ofNat p) (Int32.ofNat q) = some (d_rs Z ma hi th lt lp sd d m i u S', nx) := y1
        refine Or.inr ⟨n + 1, va_up K n p, va_up F n q, d_sB n B, lw, ?_, ⟨d_TB_seat (by omega) hG.1, by omega, hG.2.2⟩, S', ?_, y2⟩
        · unfold d_ap
          rw [if_neg (by decide), if_pos rfl, if_pos ⟨c1, c2⟩]
        · unfold f11_comesTold
          simp only [q_f15, obd, orf, n0, e0, n1, e1, if_neg (show ¬ (112 : Int32) = 108 by decide), if_true, l8, if_neg (show ¬ 8 ≤ p by omega), q_c]
          unfold f11_adds
          simp only [q_f0, obd, orf, s0, l7, if_neg (show ¬ n = 7 by omega), q_c, y1', if_neg (show ¬ Int32.ofInt 1 = 0 by decide)]
      · refine Or.inl ⟨?_, ?_⟩
        · unfold d_ap
          rw [if_neg (by decide), if_pos rfl, if_neg (fun z => c2 z.2)]
        · unfold f11_comesTold
          simp only [q_f15, obd, orf, n0, e0, n1, e1, if_neg (show ¬ (112 : Int32) = 108 by decide), if_true, l8, if_neg (show ¬ 8 ≤ p by omega), q_c]
          unfold f11_adds
          simp only [q_f0, obd, orf, s0, l7, if_pos (show n = 7 by omega), if_true, if_pos (show Int32.ofInt 0 = 0 from rfl)]
    · refine Or.inl ⟨?_, ?_⟩
      · unfold d_ap
        rw [if_neg (by decide), if_pos rfl, if_neg (fun z => c1 z.1)]
      · unfold f11_comesTold
        simp only [q_f15, obd, orf, n0, e0, if_neg (show ¬ (112 : Int32) = 108 by decide), if_true, l8, if_pos (show 8 ≤ p by omega)]
  · -- the latest leaves
    by_cases c : n = 0
    · refine Or.inl ⟨?_, ?_⟩
      · unfold d_ap
        rw [if_neg (by decide), if_neg (by decide), if_pos rfl, if_pos c]
      · subst c
        unfold f11_comesTold
        simp only [q_f15, obd, orf, n0, if_neg (show ¬ (117 : Int32) = 108 by decide), if_neg (show ¬ (117 : Int32) = 112 by decide), if_neg (show ¬ (117 : Int32) = 119 by decide), q_f0, s0]
        rw [if_pos (by decide)]
    · obtain ⟨S', y1, y2⟩ := m_leaves (nx := nx) ZZ hS (show n ≤ 8 by omega) (show n - 1 < n by omega)
      have y1' : f11_leaves (d_rs Z ma hi th lt lp sd d m i u S, nx) ma (Int32.ofNat (n - 1)) = some (d_rs Z ma hi th lt lp sd d m i u S', nx) := y1
      refine Or.inr ⟨n - 1, d_rm n (n - 1) K, d_rm n (n - 1) F, d_uB n (n - 1) B, lw, ?_, ⟨d_TB_un (by omega) (by omega) hG.1, by omega, hG.2.2⟩, S', ?_, y2⟩
      · unfold d_ap
        rw [if_neg (by decide), if_neg (by decide), if_pos rfl, if_neg c]
      · unfold f11_comesTold
        simp only [q_f15, obd, orf, n0, if_neg (show ¬ (117 : Int32) = 108 by decide), if_neg (show ¬ (117 : Int32) = 112 by decide), if_neg (show ¬ (117 : Int32) = 119 by decide), q_f0, s0, if_neg (d_pos (show 1 ≤ n by omega) (by omega)).2, q_c]
        rw [show Int32.ofNat n - Int32.ofInt 1 = Int32.ofNat (n - 1) from (Int32.ofNat_sub n 1 (by omega)).symm, y1']
  · -- one has beaten another one
    obtain ⟨e0, hp⟩ := h1 (by omega)
    obtain ⟨e1, hq⟩ := h2 (by omega)
    have hb : f11_areTwo (d_rs Z ma hi th lt lp sd d m i u S, nx) ma (Int32.ofNat p) (Int32.ofNat q) = some (d_i (decide (p < n ∧ q < n ∧ p ≠ q))) := by
      rw [← d_two_dec (show p < 900000 by omega) (show q < 900000 by omega)]
      exact m_two ZZ hS (show n ≤ 8 by omega) (Int32.ofNat p) (Int32.ofNat q)
    by_cases c : p < n ∧ q < n ∧ p ≠ q
    · obtain ⟨S', y1, y2⟩ := m_beats (nx := nx) ZZ hS (show n ≤ 8 by omega) c.1 c.2.1
      have y1' : f11_beats (d_rs Z ma hi th lt lp sd d m i u S, nx) ma (Int32.ofNat p) (Int32.ofNat q) = some (d_rs Z ma hi th lt lp sd d m i u S', nx) := y1
      refine Or.inr ⟨n, K, F, d_win B p q, lw, ?_, ⟨d_TB_win (by omega) hG.1 c.1 c.2.1 c.2.2, hn, hG.2.2⟩, S', ?_, y2⟩
      · unfold d_ap
        rw [if_neg (by decide), if_neg (by decide), if_neg (by decide), if_pos rfl, if_pos c]
      · unfold f11_comesTold
        simp only [q_f15, obd, orf, n0, e0, n1, e1, if_neg (show ¬ (119 : Int32) = 108 by decide), if_neg (show ¬ (119 : Int32) = 112 by decide), if_true, q_c, hb, d_i0, decide_eq_true c, if_neg (show ¬ true = false by simp), y1']
    · refine Or.inl ⟨?_, ?_⟩
      · unfold d_ap
        rw [if_neg (by decide), if_neg (by decide), if_neg (by decide), if_pos rfl, if_neg c]
      · unfold f11_comesTold
        simp only [q_f15, obd, orf, n0, e0, n1, e1, if_neg (show ¬ (119 : Int32) = 108 by decide), if_neg (show ¬ (119 : Int32) = 112 by decide), if_true, q_c, hb, d_i0, decide_eq_false c]
end MFOLLOW
theorem m_run {Z : Nat → Option HO} {ma nx d m : Nat} {hi th lt lp sd : Int32} {el R : Nat → Int32} (h8 : Z (ma + 8) = d_A 800 el) (h3 : Z (ma + 3) = d_A 26 R) (hd : d < 8) (hm : m ≤ 100) (cnt : Int32) : ∀ k i u S ns K F B lw fu, d_wh (d_wm m d el) m k i → k < fu → i < 1000 → d_MS S ns K F B lw → d_good ns B lw →
    ∃ i' u' S', iter (f11_league_L84 ma cnt) fu (d_rs Z ma hi th lt lp sd d m i u S, nx) = some (match d_run (fun i => el (100 * d + i)) k i (ns, K, F, B, lw) with
      | .inl b => .inl ((Int16.ofInt (-2000)).toInt32 - Int32.ofNat b, (d_rs Z ma hi th lt lp sd d m i' u' (d_ov R S'), nx))
      | .inr _ => .inr (d_rs Z ma hi th lt lp sd d m i' u' S', nx)) ∧ ∀ n' K' F' B' lw', d_run (fun i => el (100 * d + i)) k i (ns, K, F, B, lw) = .inr (n', K', F', B', lw') → d_MS S' n' K' F' B' lw'
  | 0, i, u, S, ns, K, F, B, lw, 0, hw, hf, hi2, hS, hG => by omega
  | k + 1, i, u, S, ns, K, F, B, lw, 0, hw, hf, hi2, hS, hG => by omega
  | 0, i, u, S, ns, K, F, B, lw, fu + 1, hw, hf, hi2, hS, hG => by
    have hw0 : m ≤ i := hw
    have st : f11_league_L84 ma cnt (d_rs Z ma hi th lt lp sd d m i u S, nx) = some (.inr (.inr (d_rs Z ma hi th lt lp sd d m i u S, nx))) := by
      unfold f11_league_L84
      simp only [q_12, q_14, obd]
      rw [if_pos (by rw [d_le (by omega) (by omega)]; exact hw0)]
    refine ⟨i, u, S, d_it1 _ st, fun n' K' F' B' lw' h => ?_⟩
    have e : (Sum.inr (ns, K, F, B, lw) : Nat ⊕ d_Sg) = .inr (n', K', F', B', lw') := h
    cases e
    exact hS
  | k + 1, i, u, S, ns, K, F, B, lw, fu + 1, hw, hf, hi2, hS, hG => by
    obtain ⟨him, j, hst, hwj⟩ := hw
    obtain ⟨D, e1, e2, e3, e4, e5⟩ := d_st_r hst
    have hD2 := d_dg_2 e1
    have w0 : d_wm m d el i = el (100 * d + i) := if_pos him
    obtain ⟨u', g1, g2⟩ := m_reads (nx := nx) (u := u) (S := S) (hi := hi) (th := th) (lt := lt) (lp := lp) (sd := sd) h8 hd hm (show i < 200 by omega)
    rw [hst] at g1
    obtain ⟨g3, g4⟩ := g2 D j e1 hst
    rw [w0] at e1
    have h1 : 1 ≤ D → u' 0 = Int32.ofNat (d_pv (el (100 * d + (i + 1)))) ∧ d_pv (el (100 * d + (i + 1))) ≤ 9 := fun q => by
      have := e3 q
      have r1 : d_wm m d el (i + 1) = el (100 * d + (i + 1)) := d_dt_r (by decide) this
      rw [r1] at this
      rw [g3 q, r1]
      exact d_dt_v this
    have h2 : 2 ≤ D → u' 1 = Int32.ofNat (d_pv (el (100 * d + (i + 2)))) ∧ d_pv (el (100 * d + (i + 2))) ≤ 9 := fun q => by
      have := e4 q
      have r1 : d_wm m d el (i + 2) = el (100 * d + (i + 2)) := d_dt_r (by decide) this
      rw [r1] at this
      rw [g4 q, r1]
      exact d_dt_v this
    rcases m_follow (nx := nx) (Z := Z) (ma := ma) (d := d) (m := m) (i := j) (hi := hi) (th := th) (lt := lt) (lp := lp) (sd := sd) (u := u') hS hG e1 h1 h2 with ⟨f1, f2⟩ | ⟨n', K', F', B', lw', f1, f2, S', f3, f4⟩
    · have r3 : d_rs Z ma hi th lt lp sd d m j u' S (ma + 3) = d_A 26 R := (q_ne (by omega) (by omega) (by omega)).trans h3
      have ly := m_lays (nx := nx) r3 q_1 (show ma + 3 ≠ ma + 1 by omega)
      rw [q_up1] at ly
      have st : f11_league_L84 ma cnt (d_rs Z ma hi th lt lp sd d m i u S, nx) = some (.inr (.inl ((Int16.ofInt (-2000)).toInt32 - Int32.ofNat i, (d_rs Z ma hi th lt lp sd d m j u' (d_ov R S), nx)))) := by
        unfold f11_league_L84
        simp only [q_12, q_14, obd, d_lef him (by omega), if_false, q_c, q_here h8 hd hm (show i < 100000 by omega), g1, w0, f2, if_pos (show Int32.ofInt 0 = 0 from rfl), q_f2, q_f0, orf, ly]
        rfl
      refine ⟨j, u', S, ?_, fun n' K' F' B' lw' h => ?_⟩
      · rw [d_run_n (g := fun i => el (100 * d + i)) f1]
        exact d_it1 _ st
      · rw [d_run_n (g := fun i => el (100 * d + i)) f1] at h; cases h
    · have st : f11_league_L84 ma cnt (d_rs Z ma hi th lt lp sd d m i u S, nx) = some (.inl (d_rs Z ma hi th lt lp sd d m j u' S', nx)) := by
        unfold f11_league_L84
        simp only [q_12, q_14, obd, d_lef him (by omega), if_false, q_c, q_here h8 hd hm (show i < 100000 by omega), g1, w0, f3, if_neg (show ¬ Int32.ofInt 1 = 0 by decide)]
      obtain ⟨i2, u2, S2, q1, q2⟩ := m_run h8 h3 hd hm cnt k j u' S' n' K' F' B' lw' fu hwj (by omega) (by omega) f4 f2
      refine ⟨i2, u2, S2, ?_, fun n2 K2 F2 B2 lw2 h => ?_⟩
      · rw [d_itn _ st, q1, d_run_s (g := fun i => el (100 * d + i)) f1 e1, ← e2]
      · rw [d_run_s (g := fun i => el (100 * d + i)) f1 e1, ← e2] at h
        exact q2 n2 K2 F2 B2 lw2 h
