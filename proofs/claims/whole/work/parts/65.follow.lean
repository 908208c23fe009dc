/-! PURE: statements are followed -/
abbrev d_Sg : Type := Nat × (Nat → Nat) × (Nat → Nat) × (Nat → Int32) × Int32
def d_ap (c : Int32) (p q : Nat) (σ : d_Sg) : Option d_Sg :=
  if c = 108 then (if p = 1 ∨ p = 2 then some (σ.1, σ.2.1, σ.2.2.1, σ.2.2.2.1, Int32.ofNat p) else none)
  else if c = 112 then (if p < 8 ∧ σ.1 < 7 then some (σ.1 + 1, va_up σ.2.1 σ.1 p, va_up σ.2.2.1 σ.1 q, d_sB σ.1 σ.2.2.2.1, σ.2.2.2.2) else none)
  else if c = 117 then (if σ.1 = 0 then none else some (σ.1 - 1, d_rm σ.1 (σ.1 - 1) σ.2.1, d_rm σ.1 (σ.1 - 1) σ.2.2.1, d_uB σ.1 (σ.1 - 1) σ.2.2.2.1, σ.2.2.2.2))
  else if c = 119 then (if p < σ.1 ∧ q < σ.1 ∧ p ≠ q then some (σ.1, σ.2.1, σ.2.2.1, d_win σ.2.2.2.1 p q, σ.2.2.2.2) else none)
  else none
def d_pv (x : Int32) : Nat := (x - (Int8.ofInt 48).toInt32).toNatClampNeg
theorem d_dt_v {x : Int32} (h : d_dt x = true) : x - (Int8.ofInt 48).toInt32 = Int32.ofNat (d_pv x) ∧ d_pv x ≤ 9 := by
  unfold d_dt at h
  rw [decide_eq_true_eq] at h
  obtain ⟨i, hi, e, em⟩ := d_pn (p := x) (m := 57) (by omega) (by omega)
  obtain ⟨t, rfl⟩ : ∃ t, i = 48 + t := ⟨i - 48, by omega⟩
  rw [e]
  exact (show ∀ t, t < 10 → Int32.ofNat (48 + t) - (Int8.ofInt 48).toInt32 = Int32.ofNat (d_pv (Int32.ofNat (48 + t))) ∧ d_pv (Int32.ofNat (48 + t)) ≤ 9 by decide) t (by omega)
theorem d_dt_r {m : Nat} {g : Nat → Int32} {z : Int32} {j : Nat} (hz : d_dt z = false) (h : d_dt (d_wd m g z j) = true) : d_wd m g z j = g j := by
  unfold d_wd at h ⊢
  by_cases c : j < m
  · rw [if_pos c]
  · rw [if_neg c, hz] at h; cases h
def d_dn0 (x : Int32) : Nat := match d_dg x with
  | some D => D
  | none => 0
def d_run (g : Nat → Int32) : Nat → Nat → d_Sg → Nat ⊕ d_Sg
  | 0, _, σ => .inr σ
  | k + 1, i, σ => match d_ap (g i) (d_pv (g (i + 1))) (d_pv (g (i + 2))) σ with
    | none => .inl i
    | some σ' => d_run g k (i + d_dn0 (g i) + 2) σ'
theorem d_is_dec {m p : Nat} (h : p < 900000) : d_is m (Int32.ofNat p) = decide (p < m) := by
  unfold d_is
  rw [d_tn (by omega)]
  congr 1
  apply propext
  omega
theorem d_two_dec {n p q : Nat} (hp : p < 900000) (hq : q < 900000) : d_two n (Int32.ofNat p) (Int32.ofNat q) = decide (p < n ∧ q < n ∧ p ≠ q) := by
  unfold d_two
  rw [d_is_dec hp, d_is_dec hq]
  by_cases h1 : p < n <;> by_cases h2 : q < n <;> by_cases h3 : p = q
  all_goals first
    | (subst h3; simp [h1]; done)
    | (have e : ¬ Int32.ofNat p = Int32.ofNat q := by rw [d_eq (by omega) (by omega)]; exact h3
       simp [h1, h2, h3, e])
theorem d_dg_e {c : Int32} {D : Nat} (h : d_dg c = some D) : (c = 108 ∧ D = 1) ∨ (c = 112 ∧ D = 2) ∨ (c = 117 ∧ D = 0) ∨ (c = 119 ∧ D = 2) := by
  unfold d_dg at h
  by_cases h1 : c = 108
  · rw [if_pos h1] at h; cases h; exact Or.inl ⟨h1, rfl⟩
  · rw [if_neg h1] at h
    by_cases h2 : c = 112
    · rw [if_pos h2] at h; cases h; exact Or.inr (Or.inl ⟨h2, rfl⟩)
    · rw [if_neg h2] at h
      by_cases h3 : c = 117
      · rw [if_pos h3] at h; cases h; exact Or.inr (Or.inr (Or.inl ⟨h3, rfl⟩))
      · rw [if_neg h3] at h
        by_cases h4 : c = 119
        · rw [if_pos h4] at h; cases h; exact Or.inr (Or.inr (Or.inr ⟨h4, rfl⟩))
        · rw [if_neg h4] at h; cases h
theorem x_follow {a nx n : Nat} {X : Nat → Option HO} {hi : Int32} {P K F : Nat → Nat} {B : Nat → Int32} {lw : Int32} (hX : d_CX X a hi) (ha : a + 14 ≤ nx) (G : d_LG a nx X (a + 5) P K F n lw B) (hG : d_good n B lw) {c : Int32} {D p q : Nat} {P1 P2 : Int32} (hD : d_dg c = some D) (h1 : 1 ≤ D → P1 = Int32.ofNat p ∧ p ≤ 9) (h2 : 2 ≤ D → P2 = Int32.ofNat q ∧ q ≤ 9) :
    (d_ap c p q (n, K, F, B, lw) = none ∧ f10_draftFollows (X, nx) a c P1 P2 = some (Int32.ofInt 0, (X, nx))) ∨ ∃ n' K' F' B' lw', d_ap c p q (n, K, F, B, lw) = some (n', K', F', B', lw') ∧ d_good n' B' lw' ∧ ∃ X' nx' P', f10_draftFollows (X, nx) a c P1 P2 = some (Int32.ofInt 1, (X', nx')) ∧ nx ≤ nx' ∧ d_LG a nx' X' (a + 5) P' K' F' n' lw' B' ∧ ∀ q, q < nx → ¬ (a + 5 ≤ q ∧ q ≤ a + 7) → X' q = X q := by
  have hn := hG.2.1
  have sz : hfi (X, nx) [2] 2 (a + 5) = some (Int32.ofNat n) := d_hfi (σ := (X, nx)) G.1.1.1 rfl rfl
  have oc : ∀ {α : Type} (x : Option α), ocl (X, nx) (a + 5) 2 x = x := fun x => d_ocl (d_hcls (σ := (X, nx)) G.1.1.1) x
  rcases d_dg_e hD with ⟨rfl, rfl⟩ | ⟨rfl, rfl⟩ | ⟨rfl, rfl⟩ | ⟨rfl, rfl⟩
  · -- the law
    obtain ⟨rfl, hp⟩ := h1 (by omega)
    have tn : (Int32.ofNat p).toInt = p := d_tn (by omega)
    by_cases c : p = 1 ∨ p = 2
    · refine Or.inr ⟨n, K, F, B, Int32.ofNat p, ?_, ⟨hG.1, hn, by rcases c with rfl | rfl <;> decide⟩, ?_⟩
      · unfold d_ap
        rw [if_pos rfl, if_pos c]
      · let X1 : Nat → Option HO := va_up X (a + 5) (some (.inl (2, [.ref (a + 5 + 1), .ref (a + 5 + 2), .int (Int32.ofNat n), .int (Int32.ofNat p)])))
        have g2 : hput (X, nx) [2] 3 (a + 5) (.int (Int32.ofNat p)) = some (X1, nx) := by
          unfold hput hobj
          simp only [G.1.1.1]
          rfl
        refine ⟨X1, nx, P, ?_, Nat.le_refl _, ⟨d_law_c G.1 (va_up_self _ _ _) (fun q hq => va_up_ne _ _ hq), (va_up_ne _ _ (by omega)).trans G.2.1, G.2.2⟩, fun q _ hq => va_up_ne _ _ (by omega)⟩
        unfold f10_draftFollows
        rw [if_pos rfl, isLaw_x, if_pos (by rw [tn]; omega)]
        simp only [obd, if_neg (show ¬ (1 : Int32) = 0 by decide), c_draft hX, orf, g2]
    · refine Or.inl ⟨?_, ?_⟩
      · unfold d_ap
        rw [if_pos rfl, if_neg c]
      · unfold f10_draftFollows
        rw [if_pos rfl, isLaw_x, if_neg (by rw [tn]; omega)]
        simp only [obd, if_true]
  · -- one more
    obtain ⟨rfl, hp⟩ := h1 (by omega)
    obtain ⟨rfl, hq⟩ := h2 (by omega)
    have per : f10_isPerson (Int32.ofNat p) (Int32.ofNat q) = some (d_i (decide (p < 8))) := by
      rw [x_isPerson, d_is_dec (by omega), d_is_dec (by omega), decide_eq_true (show q < 10 by omega), Bool.and_true]
    have l7 : (Int32.ofNat n < (Int8.ofInt 7).toInt32) = (n < 7) := d_lt (j := 7) (show n < 2147483648 by omega) (by omega)
    by_cases c : p < 8 ∧ n < 7
    · refine Or.inr ⟨n + 1, va_up K n p, va_up F n q, d_sB n B, lw, ?_, ⟨d_TB_seat (by omega) hG.1, by omega, hG.2.2⟩, ?_⟩
      · unfold d_ap
        rw [if_neg (by decide), if_pos rfl, if_pos c]
      · let XP : Nat → Option HO := va_up X nx (some (.inl (d_kc p, [.int (Int32.ofNat q)])))
        have xp : ∀ q, q < nx → XP q = X q := fun q h => va_up_ne _ _ (by omega)
        have k5 : d_LG a (nx + 1) XP (a + 5) P K F n lw B := d_LG_fr G (Nat.le_succ _) (fun q hq => xp q (d_ok_lt ha hq).1) (xp _ (by omega)) (xp _ (by omega)) (xp _ (by omega))
        have hpe : d_PE XP nx p q := ⟨va_up_self _ _ _, c.1, by omega⟩
        obtain ⟨X2, s1, s2, s3⟩ := x_seat (nx := nx + 1) k5 (show n ≤ 7 by omega) (Or.inr ⟨ha, by omega⟩) hpe (fun k hk => by rw [Nat.add_assoc]; exact d_nok (by omega) (by omega)) (nx + 1)
        refine ⟨X2, nx + 1, _, ?_, Nat.le_succ _, s2, fun q h0 h1 => (s3 q (by omega) (by omega) (by omega)).trans (xp q h0)⟩
        have ocp : ∀ {α : Type} (x : Option α), ocl (XP, nx + 1) (a + 5) 2 x = x := fun x => d_ocl (d_hcls (σ := (XP, nx + 1)) k5.1.1.1) x
        unfold f10_draftFollows
        rw [if_neg (by decide), if_pos rfl, per]
        simp only [obd, d_i0, decide_eq_true c.1, if_neg (show ¬ true = false by simp), c_draft hX, orf, sz, l7, if_pos c.2, x_new X nx c.1]
        rw [show ((va_up X nx (some (.inl (d_kc p, [.int (Int32.ofNat q)]))), nx + 1) : HM) = (XP, nx + 1) from rfl]
        simp only [ocp, s1]
    · refine Or.inl ⟨?_, ?_⟩
      · unfold d_ap
        rw [if_neg (by decide), if_pos rfl, if_neg c]
      · unfold f10_draftFollows
        rw [if_neg (by decide), if_pos rfl, per]
        by_cases c1 : p < 8
        · have c2 : ¬ n < 7 := fun z => c ⟨c1, z⟩
          simp only [obd, d_i0, decide_eq_true c1, if_neg (show ¬ true = false by simp), c_draft hX, orf, sz, l7, if_neg c2]
        · simp only [obd, d_i0, decide_eq_false c1, if_true]
  · -- the latest leaves
    by_cases c : n = 0
    · refine Or.inl ⟨?_, ?_⟩
      · unfold d_ap
        rw [if_neg (by decide), if_neg (by decide), if_pos rfl, if_pos c]
      · subst c
        unfold f10_draftFollows
        rw [if_neg (by decide), if_neg (by decide), if_pos rfl]
        simp only [c_draft hX, obd, orf, sz]
        rw [if_pos (by decide)]
    · refine Or.inr ⟨n - 1, d_rm n (n - 1) K, d_rm n (n - 1) F, d_uB n (n - 1) B, lw, ?_, ⟨d_TB_un (by omega) (by omega) hG.1, by omega, hG.2.2⟩, ?_⟩
      · unfold d_ap
        rw [if_neg (by decide), if_neg (by decide), if_pos rfl, if_neg c]
      · obtain ⟨X2, s1, s2, s3⟩ := x_unseat (nx := nx) G (show n - 1 < n by omega) (fun k hk => by rw [Nat.add_assoc]; exact d_nok (by omega) (by omega)) nx
        refine ⟨X2, nx, _, ?_, Nat.le_refl _, s2, fun q _ h1 => s3 q (by omega) (by omega) (by omega)⟩
        unfold f10_draftFollows
        rw [if_neg (by decide), if_neg (by decide), if_pos rfl]
        simp only [c_draft hX, obd, orf, sz, if_neg (d_pos (show 1 ≤ n by omega) (by omega)).2, oc]
        rw [show Int32.ofNat n - Int32.ofInt 1 = Int32.ofNat (n - 1) from (Int32.ofNat_sub n 1 (by omega)).symm, s1]
  · -- one has beaten another one
    obtain ⟨rfl, hp⟩ := h1 (by omega)
    obtain ⟨rfl, hq⟩ := h2 (by omega)
    have hb := x_two (nx := nx) (B := B) G.1 (Int32.ofNat p) (Int32.ofNat q)
    rw [d_cB_e G.2.1, d_two_dec (by omega) (by omega)] at hb
    by_cases c : p < n ∧ q < n ∧ p ≠ q
    · refine Or.inr ⟨n, K, F, d_win B p q, lw, ?_, ⟨d_TB_win (by omega) hG.1 c.1 c.2.1 c.2.2, hn, hG.2.2⟩, ?_⟩
      · unfold d_ap
        rw [if_neg (by decide), if_neg (by decide), if_neg (by decide), if_pos rfl, if_pos c]
      · have wn := x_win (nx := nx) (B := B) G.1 (show p < 8 by omega) (show q < 8 by omega)
        rw [d_cB_e G.2.1] at wn
        refine ⟨d_cB X (a + 5) (d_win B p q), nx, P, ?_, Nat.le_refl _, d_LG_cB G.1 G.2.2, fun q _ h1 => d_cB_ne (by omega)⟩
        unfold f10_draftFollows
        rw [if_neg (by decide), if_neg (by decide), if_neg (by decide), if_pos rfl]
        simp only [c_draft hX, obd, orf, oc, hb, d_i0, decide_eq_true c, if_neg (show ¬ true = false by simp), wn]
    · refine Or.inl ⟨?_, ?_⟩
      · unfold d_ap
        rw [if_neg (by decide), if_neg (by decide), if_neg (by decide), if_pos rfl, if_neg c]
      · unfold f10_draftFollows
        rw [if_neg (by decide), if_neg (by decide), if_neg (by decide), if_pos rfl]
        simp only [c_draft hX, obd, orf, oc, hb, d_i0, decide_eq_false c, if_true]
theorem d_run_n {g : Nat → Int32} {k i : Nat} {σ : d_Sg} (h : d_ap (g i) (d_pv (g (i + 1))) (d_pv (g (i + 2))) σ = none) : d_run g (k + 1) i σ = .inl i := by
  unfold d_run
  rw [h]
theorem d_run_s {g : Nat → Int32} {k i D : Nat} {σ σ' : d_Sg} (h : d_ap (g i) (d_pv (g (i + 1))) (d_pv (g (i + 2))) σ = some σ') (hD : d_dg (g i) = some D) : d_run g (k + 1) i σ = d_run g k (i + D + 2) σ' := by
  conv => lhs; unfold d_run
  rw [h]
  unfold d_dn0
  rw [hD]
theorem x_run {a r c m : Nat} {hi : Int32} {g0 g : Nat → Int32} (hg : ∀ i, i < m → g0 i = g i) : ∀ k i n X nx P K F ns B lw fu, d_wh (d_wd m g (Int32.ofInt (-1))) m k i → k < fu → n + k < 1000 ∧ i < 1000 → d_CX X a hi → a + 14 ≤ nx → d_LG a nx X (a + 5) P K F ns lw B → d_good ns B lw → (a + 14 ≤ r ∧ r < nx ∧ a + 14 ≤ c ∧ c < nx) → d_RW X r c 0 m g0 →
    ∃ X' nx', iter (f10_league_L48 a r) fu (Int32.ofNat n, Int32.ofNat i, (X, nx)) = some (match d_run g k i (ns, K, F, B, lw) with
      | .inl b => .inl ((Int16.ofInt (-2000)).toInt32 - Int32.ofNat b, (X', nx'))
      | .inr _ => .inr (Int32.ofNat (n + k), (X', nx'))) ∧ nx ≤ nx' ∧ (∀ q, q < nx → ¬ (a + 5 ≤ q ∧ q ≤ a + 7) → X' q = X q) ∧ (∃ P K F n lw B, d_LG a nx' X' (a + 5) P K F n lw B) ∧ ∀ n' K' F' B' lw', d_run g k i (ns, K, F, B, lw) = .inr (n', K', F', B', lw') → d_good n' B' lw' ∧ ∃ P', d_LG a nx' X' (a + 5) P' K' F' n' lw' B'
  | 0, i, n, X, nx, P, K, F, ns, B, lw, 0, hw, hf, hn, hX, ha, G, hG, hr, W => by omega
  | k + 1, i, n, X, nx, P, K, F, ns, B, lw, 0, hw, hf, hn, hX, ha, G, hG, hr, W => by omega
  | 0, i, n, X, nx, P, K, F, ns, B, lw, fu + 1, hw, hf, hn, hX, ha, G, hG, hr, W => by
    have hw0 : m ≤ i := hw
    have hm := W.2.2.1
    have st : f10_league_L48 a r (Int32.ofNat n, Int32.ofNat i, (X, nx)) = some (.inr (.inr (Int32.ofNat n, (X, nx)))) := by
      unfold f10_league_L48
      simp only [r_c W, r_size W, obd]
      rw [if_pos (by rw [d_le (by omega) (by omega)]; exact hw0)]
    refine ⟨X, nx, d_it1 _ st, Nat.le_refl _, fun _ _ _ => rfl, ⟨_, _, _, _, _, _, G⟩, fun n' K' F' B' lw' h => ?_⟩
    have e : (Sum.inr (ns, K, F, B, lw) : Nat ⊕ d_Sg) = .inr (n', K', F', B', lw') := h
    cases e
    exact ⟨hG, P, G⟩
  | k + 1, i, n, X, nx, P, K, F, ns, B, lw, fu + 1, hw, hf, hn, hX, ha, G, hG, hr, W => by
    obtain ⟨hi2, j, hst, hwj⟩ := hw
    have hm := W.2.2.1
    obtain ⟨D, e1, e2, e3, e4, e5⟩ := d_st_r hst
    have hD2 := d_dg_2 e1
    have w0 : d_wd m g (Int32.ofInt (-1)) i = g i := if_pos hi2
    rw [w0] at e1
    have ww : ∀ i, d_wd m g0 (Int32.ofInt (-1)) i = d_wd m g (Int32.ofInt (-1)) i := fun i => by
      unfold d_wd
      by_cases c : i < m
      · rw [if_pos c, if_pos c, hg i c]
      · rw [if_neg c, if_neg c]
    have h1 : 1 ≤ D → d_wd m g (Int32.ofInt (-1)) (i + 1) - (Int8.ofInt 48).toInt32 = Int32.ofNat (d_pv (g (i + 1))) ∧ d_pv (g (i + 1)) ≤ 9 := fun q => by
      have := e3 q
      have r1 := d_dt_r (by decide) this
      rw [r1] at this ⊢
      exact d_dt_v this
    have h2 : 2 ≤ D → d_wd m g (Int32.ofInt (-1)) (i + 2) - (Int8.ofInt 48).toInt32 = Int32.ofNat (d_pv (g (i + 2))) ∧ d_pv (g (i + 2)) ≤ 9 := fun q => by
      have := e4 q
      have r1 := d_dt_r (by decide) this
      rw [r1] at this ⊢
      exact d_dt_v this
    have i2 : Int32.ofNat i + Int32.ofInt 2 = Int32.ofNat (i + 2) := d_ad i 2
    rcases x_follow hX ha G hG e1 h1 h2 with ⟨f1, f2⟩ | ⟨n', K', F', B', lw', f1, f2, X', nx', P', f3, f4, f5, f6⟩
    · have st : f10_league_L48 a r (Int32.ofNat n, Int32.ofNat i, (X, nx)) = some (.inr (.inl ((Int16.ofInt (-2000)).toInt32 - Int32.ofNat i, (X, nx)))) := by
        unfold f10_league_L48
        simp only [r_c W, r_size W, obd, d_lef hi2 (by omega), if_false, d_su, i2, r_atn W (show i < 100000 by omega), r_atn W (show i + 1 < 100000 by omega), r_atn W (show i + 2 < 100000 by omega), ww, w0, c_c hX, f2, if_pos (show Int32.ofInt 0 = 0 from rfl)]
      refine ⟨X, nx, ?_, Nat.le_refl _, fun _ _ _ => rfl, ⟨_, _, _, _, _, _, G⟩, fun n' K' F' B' lw' h => ?_⟩
      · rw [d_run_n f1]
        exact d_it1 _ st
      · rw [d_run_n f1] at h; cases h
    · have W' : d_RW X' r c 0 m g0 := ⟨(f6 _ hr.2.1 (by omega)).trans W.1, (f6 _ hr.2.2.2 (by omega)).trans W.2.1, W.2.2⟩
      have hX' : d_CX X' a hi := (f6 a (by omega) (by omega)).trans hX
      have st : f10_league_L48 a r (Int32.ofNat n, Int32.ofNat i, (X, nx)) = some (.inl (Int32.ofNat (n + 1), Int32.ofNat j, (X', nx'))) := by
        have oc8 : ∀ {α : Type} (x : Option α), ocl (X', nx') r 8 x = x := fun x => r_c W' x
        unfold f10_league_L48
        simp only [r_c W, r_size W, obd, d_lef hi2 (by omega), if_false, d_su, i2, r_atn W (show i < 100000 by omega), r_atn W (show i + 1 < 100000 by omega), r_atn W (show i + 2 < 100000 by omega), ww, w0, c_c hX, f3, if_neg (show ¬ Int32.ofInt 1 = 0 by decide), oc8, r_atn W' (show i < 100000 by omega), x_dgb, e1]
        rw [show Int32.ofNat D + Int32.ofInt 2 = Int32.ofNat (D + 2) from d_ad D 2, d_ad, e2, Nat.add_assoc]
      obtain ⟨X2, nx2, q1, q2, q3, q4, q5⟩ := x_run hg k j (n + 1) X' nx' P' K' F' n' B' lw' fu hwj (by omega) (by omega) hX' (by omega) f5 f2 (by omega) W'
      refine ⟨X2, nx2, ?_, by omega, fun q h0 h1 => (q3 q (by omega) h1).trans (f6 q h0 h1), q4, fun n2 K2 F2 B2 lw2 h => ?_⟩
      · rw [d_itn _ st, q1, d_run_s f1 e1, ← e2, show n + 1 + k = n + (k + 1) by omega]
      · rw [d_run_s f1 e1, ← e2] at h
        exact q5 n2 K2 F2 B2 lw2 h
