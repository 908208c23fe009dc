/-! PURE: a league as a text, the model -/
theorem d_up_sw {α : Type} (f : Nat → α) {p q : Nat} (h : p ≠ q) (x y : α) : va_up (va_up f p x) q y = va_up (va_up f q y) p x := by
  funext j
  unfold va_up
  by_cases e1 : j = p
  · have e2 : ¬ j = q := fun e => h (e1.symm.trans e)
    simp only [if_pos e1, if_neg e2]
  · simp only [if_neg e1]
/-- the model while it reads: place i of the row of shelf d, of size m; numbers u -/
def d_rs (Z : Nat → Option HO) (ma : Nat) (hi th lt lp sd : Int32) (d m i : Nat) (u S : Nat → Int32) : Nat → Option HO := d_mS (va_up (va_up Z (ma + 11) (d_A 2 u)) ma (some (.inl (11, [.ref (ma + 1), .ref (ma + 2), .ref (ma + 3), .ref (ma + 4), .ref (ma + 5), .ref (ma + 6), .ref (ma + 7), .ref (ma + 8), .ref (ma + 9), .ref (ma + 10), .int hi, .int th, .int (Int32.ofNat i), .int (Int32.ofNat (100 * d)), .int (Int32.ofNat m), .ref (ma + 11), .int lt, .int lp, .int sd])))) ma S
section READS
variable {Z : Nat → Option HO} {ma nx d m i : Nat} {hi th lt lp sd : Int32} {u S : Nat → Int32}
theorem q_MO : d_MO (d_rs Z ma hi th lt lp sd d m i u S) ma hi th (Int32.ofNat i) (Int32.ofNat (100 * d)) (Int32.ofNat m) lt lp sd := d_mS_0.trans (va_up_self _ _ _)
theorem q_Z : d_MZ (va_up (va_up Z (ma + 11) (d_A 2 u)) ma (some (.inl (11, [.ref (ma + 1), .ref (ma + 2), .ref (ma + 3), .ref (ma + 4), .ref (ma + 5), .ref (ma + 6), .ref (ma + 7), .ref (ma + 8), .ref (ma + 9), .ref (ma + 10), .int hi, .int th, .int (Int32.ofNat i), .int (Int32.ofNat (100 * d)), .int (Int32.ofNat m), .ref (ma + 11), .int lt, .int lp, .int sd])))) ma := ⟨_, va_up_self _ _ _, rfl⟩
theorem q_ne {q : Nat} (h0 : q ≠ ma) (h1 : q ≠ ma + 1) (h11 : q ≠ ma + 11) : d_rs Z ma hi th lt lp sd d m i u S q = Z q := (d_mS_ne h1).trans ((va_up_ne _ _ h0).trans (va_up_ne _ _ h11))
theorem q_1 : d_rs Z ma hi th lt lp sd d m i u S (ma + 1) = d_A 26 S := d_mS_at
theorem q_11 : d_rs Z ma hi th lt lp sd d m i u S (ma + 11) = d_A 2 u := (d_mS_ne (by omega)).trans ((va_up_ne _ _ (by omega)).trans (va_up_self _ _ _))
theorem q_c {α : Type} (x : Option α) : ocl (d_rs Z ma hi th lt lp sd d m i u S, nx) ma 11 x = x := n_c q_MO x
theorem q_12 : hfi (d_rs Z ma hi th lt lp sd d m i u S, nx) [11] 12 ma = some (Int32.ofNat i) := d_hfi (σ := (d_rs Z ma hi th lt lp sd d m i u S, nx)) q_MO rfl rfl
theorem q_13 : hfi (d_rs Z ma hi th lt lp sd d m i u S, nx) [11] 13 ma = some (Int32.ofNat (100 * d)) := d_hfi (σ := (d_rs Z ma hi th lt lp sd d m i u S, nx)) q_MO rfl rfl
theorem q_14 : hfi (d_rs Z ma hi th lt lp sd d m i u S, nx) [11] 14 ma = some (Int32.ofNat m) := d_hfi (σ := (d_rs Z ma hi th lt lp sd d m i u S, nx)) q_MO rfl rfl
theorem q_f0 : hfld (d_rs Z ma hi th lt lp sd d m i u S, nx) [11] 0 ma = some (.ref (ma + 1)) := n_f q_MO
theorem q_f2 : hfld (d_rs Z ma hi th lt lp sd d m i u S, nx) [11] 2 ma = some (.ref (ma + 3)) := n_f q_MO
theorem q_f15 : hfld (d_rs Z ma hi th lt lp sd d m i u S, nx) [11] 15 ma = some (.ref (ma + 11)) := n_f q_MO
theorem q_p12 (j : Nat) : hput (d_rs Z ma hi th lt lp sd d m i u S, nx) [11] 12 ma (.int (Int32.ofNat j)) = some (d_rs Z ma hi th lt lp sd d m j u S, nx) := by
  have e : d_rs Z ma hi th lt lp sd d m j u S = va_up (d_rs Z ma hi th lt lp sd d m i u S) ma (some (.inl (11, [.ref (ma + 1), .ref (ma + 2), .ref (ma + 3), .ref (ma + 4), .ref (ma + 5), .ref (ma + 6), .ref (ma + 7), .ref (ma + 8), .ref (ma + 9), .ref (ma + 10), .int hi, .int th, .int (Int32.ofNat j), .int (Int32.ofNat (100 * d)), .int (Int32.ofNat m), .ref (ma + 11), .int lt, .int lp, .int sd]))) := (d_up_cm _ (show ma ≠ ma + 1 by omega) _ _ _).symm
  rw [e]
  unfold hput hobj
  simp only [show d_rs Z ma hi th lt lp sd d m i u S ma = _ from q_MO]
  rfl
theorem q_st {k : Nat} (hk : k < 2) (x : Int32) : hast (d_rs Z ma hi th lt lp sd d m i u S, nx) (ma + 11) (Int32.ofNat k) x = some (d_rs Z ma hi th lt lp sd d m i (upd u k x) S, nx) := by
  rw [d_ast (σ := (d_rs Z ma hi th lt lp sd d m i u S, nx)) q_11 hk (by omega)]
  unfold hset d_rs d_mS
  show some (va_up (va_up (va_up (va_up Z (ma + 11) _) ma _) (ma + 1) _) (ma + 11) _, nx) = _
  rw [d_up_sw (va_up (va_up Z (ma + 11) _) ma _) (show ma + 1 ≠ ma + 11 by omega), d_up_sw (va_up Z (ma + 11) _) (show ma ≠ ma + 11 by omega), d_up_up]
theorem q_ld {k : Nat} (hk : k < 2) : hald (d_rs Z ma hi th lt lp sd d m i u S, nx) (ma + 11) (Int32.ofNat k) = some (u k) := d_ild _ q_11 hk (by omega)
theorem q_up3 (o : Option HO) : va_up (d_rs Z ma hi th lt lp sd d m i u S) (ma + 3) o = d_rs (va_up Z (ma + 3) o) ma hi th lt lp sd d m i u S := by
  unfold d_rs d_mS
  rw [d_up_sw _ (show ma + 1 ≠ ma + 3 by omega), d_up_sw (va_up Z (ma + 11) _) (show ma ≠ ma + 3 by omega), d_up_sw Z (show ma + 11 ≠ ma + 3 by omega)]
theorem q_up1 (S' : Nat → Int32) : va_up (d_rs Z ma hi th lt lp sd d m i u S) (ma + 1) (d_A 26 S') = d_rs Z ma hi th lt lp sd d m i u S' := d_up_up _ _ _ _
abbrev d_wm (m d : Nat) (el : Nat → Int32) : Nat → Int32 := d_wd m (fun i => el (100 * d + i)) ((Int16.ofInt (-1000)).toInt32)
theorem q_here {el : Nat → Int32} (h8 : Z (ma + 8) = d_A 800 el) (hd : d < 8) (hm : m ≤ 100) (hi2 : i < 100000) : f11_here (d_rs Z ma hi th lt lp sd d m i u S, nx) ma = some (d_wm m d el i) := by
  have f7 : hfld (d_rs Z ma hi th lt lp sd d m i u S, nx) [11] 7 ma = some (.ref (ma + 8)) := n_f q_MO
  have e8 : d_rs Z ma hi th lt lp sd d m i u S (ma + 8) = d_A 800 el := (q_ne (by omega) (by omega) (by omega)).trans h8
  unfold f11_here d_wm d_wd
  simp only [q_12, q_13, q_14, obd, f7, orf, d_ad]
  by_cases c : i < m
  · simp only [d_lef c (by omega), if_false, if_pos c, d_ild _ e8 (show 100 * d + i < 800 by omega) (by omega)]
  · rw [if_pos (show Int32.ofNat m ≤ Int32.ofNat i by rw [d_le (by omega) (by omega)]; omega), if_neg c]
theorem m_isd (x : Int32) : f11_isIn x.toInt64 48 57 = some (d_i (d_dt x)) := by
  rw [isIn_e, Int32.toInt_toInt64, show (48 : Int64).toInt = 48 by decide, show (57 : Int64).toInt = 57 by decide, d_i_if]
  rfl
theorem m_dig {el : Nat → Int32} (h8 : Z (ma + 8) = d_A 800 el) (hd : d < 8) (hm : m ≤ 100) (hi2 : i < 1000) {D k : Nat} (hD : D ≤ 2) (hk : k ≤ 2) : f11_readsDigits_L2 ma (Int32.ofNat D) (Int32.ofNat k, (d_rs Z ma hi th lt lp sd d m i u S, nx)) = if D ≤ k then some (.inr (.inr (d_rs Z ma hi th lt lp sd d m i u S, nx))) else if d_dt (d_wm m d el i) = true then some (.inl (Int32.ofNat (k + 1), (d_rs Z ma hi th lt lp sd d m (i + 1) (upd u k (d_wm m d el i - (Int8.ofInt 48).toInt32)) S, nx))) else some (.inr (.inl (Int32.ofInt 0, (d_rs Z ma hi th lt lp sd d m i u S, nx)))) := by
  unfold f11_readsDigits_L2
  simp only [d_le (show D < 2147483648 by omega) (show k < 2147483648 by omega), q_c, q_here h8 hd hm (show i < 100000 by omega), obd, m_isd, d_i0, q_f15, orf]
  by_cases c1 : D ≤ k
  · simp only [if_pos c1]
  · simp only [if_neg c1, q_st (show k < 2 by omega), q_12, d_su, q_p12]
    cases d_dt (d_wm m d el i) with
    | true => rw [if_neg (by simp), if_pos rfl]
    | false => rw [if_pos rfl, if_neg (by simp)]
theorem m_digs {el : Nat → Int32} (h8 : Z (ma + 8) = d_A 800 el) (hd : d < 8) (hm : m ≤ 100) (hi2 : i < 200) {D : Nat} (hD : D ≤ 2) : ∃ u', iter (f11_readsDigits_L2 ma (Int32.ofNat D)) FU (Int32.ofInt 0, (d_rs Z ma hi th lt lp sd d m (i + 1) u S, nx)) = some (if 1 ≤ D ∧ d_dt (d_wm m d el (i + 1)) = false then .inl (Int32.ofInt 0, (d_rs Z ma hi th lt lp sd d m (i + 1) u' S, nx)) else if 2 ≤ D ∧ d_dt (d_wm m d el (i + 2)) = false then .inl (Int32.ofInt 0, (d_rs Z ma hi th lt lp sd d m (i + 2) u' S, nx)) else .inr (d_rs Z ma hi th lt lp sd d m (i + D + 1) u' S, nx)) ∧ (¬ (1 ≤ D ∧ d_dt (d_wm m d el (i + 1)) = false) → ¬ (2 ≤ D ∧ d_dt (d_wm m d el (i + 2)) = false) → (1 ≤ D → u' 0 = d_wm m d el (i + 1) - (Int8.ofInt 48).toInt32) ∧ (2 ≤ D → u' 1 = d_wm m d el (i + 2) - (Int8.ofInt 48).toInt32)) := by
  let u1 : Nat → Int32 := upd u 0 (d_wm m d el (i + 1) - (Int8.ofInt 48).toInt32)
  let u2 : Nat → Int32 := upd u1 1 (d_wm m d el (i + 2) - (Int8.ofInt 48).toInt32)
  have s1 := m_dig (nx := nx) (u := u) (S := S) (hi := hi) (th := th) (lt := lt) (lp := lp) (sd := sd) h8 hd hm (show i + 1 < 1000 by omega) hD (show 0 ≤ 2 by omega)
  have s2 := m_dig (nx := nx) (u := u1) (S := S) (hi := hi) (th := th) (lt := lt) (lp := lp) (sd := sd) h8 hd hm (show i + 2 < 1000 by omega) hD (show 1 ≤ 2 by omega)
  have s3 := m_dig (nx := nx) (u := u2) (S := S) (hi := hi) (th := th) (lt := lt) (lp := lp) (sd := sd) h8 hd hm (show i + 3 < 1000 by omega) hD (show 2 ≤ 2 by omega)
  rw [show FU = 999997 + 1 + 1 + 1 from rfl, show Int32.ofInt 0 = Int32.ofNat 0 from rfl]
  by_cases d0 : D = 0
  · subst d0
    rw [if_pos (show 0 ≤ 0 by omega)] at s1
    refine ⟨u, ?_, fun _ _ => ⟨fun q => by omega, fun q => by omega⟩⟩
    rw [d_it1 _ s1, if_neg (by omega), if_neg (by omega)]
  · rw [if_neg (show ¬ D ≤ 0 by omega)] at s1
    cases e1 : d_dt (d_wm m d el (i + 1)) with
    | false =>
      rw [e1, if_neg (by simp)] at s1
      refine ⟨u, ?_, fun q _ => absurd ⟨by omega, rfl⟩ q⟩
      rw [d_it1 _ s1, if_pos ⟨by omega, rfl⟩]
      rfl
    | true =>
      rw [e1, if_pos rfl] at s1
      by_cases d1 : D = 1
      · subst d1
        rw [if_pos (show 1 ≤ 1 by omega)] at s2
        refine ⟨u1, ?_, fun _ _ => ⟨fun _ => if_pos rfl, fun q => by omega⟩⟩
        rw [d_itn _ s1, d_it1 _ s2, if_neg (fun z => by cases z.2), if_neg (by omega)]
      · have D2 : D = 2 := by omega
        subst D2
        rw [if_neg (show ¬ 2 ≤ 1 by omega)] at s2
        cases e2 : d_dt (d_wm m d el (i + 2)) with
        | false =>
          rw [e2, if_neg (by simp)] at s2
          refine ⟨u1, ?_, fun _ q => absurd ⟨by omega, rfl⟩ q⟩
          rw [d_itn _ s1, d_it1 _ s2, if_neg (fun z => by cases z.2), if_pos ⟨by omega, rfl⟩]
          rfl
        | true =>
          rw [e2, if_pos rfl] at s2
          rw [if_pos (show 2 ≤ 2 by omega)] at s3
          refine ⟨u2, ?_, fun _ _ => ⟨fun _ => (if_neg (by omega)).trans (if_pos rfl), fun _ => if_pos rfl⟩⟩
          rw [d_itn _ s1, d_itn _ s2, d_it1 _ s3, if_neg (fun z => by cases z.2), if_neg (fun z => by cases z.2)]
theorem m_k42 {el : Nat → Int32} (h8 : Z (ma + 8) = d_A 800 el) (hd : d < 8) (hm : m ≤ 100) (hi2 : i < 200) {D : Nat} (hD : D ≤ 2) (e : d_dg (d_wm m d el i) = some D) : ∃ u', f11_readsStatement_K42 (d_rs Z ma hi th lt lp sd d m i u S, nx) ma (Int32.ofNat D) = some (match d_st (d_wm m d el) i with
    | .inl b => (Int32.ofInt 0, (d_rs Z ma hi th lt lp sd d m b u' S, nx))
    | .inr j => (Int32.ofInt 1, (d_rs Z ma hi th lt lp sd d m j u' S, nx))) ∧ ∀ j, d_st (d_wm m d el) i = .inr j → (1 ≤ D → u' 0 = d_wm m d el (i + 1) - (Int8.ofInt 48).toInt32) ∧ (2 ≤ D → u' 1 = d_wm m d el (i + 2) - (Int8.ofInt 48).toInt32) := by
  obtain ⟨u', g1, g2⟩ := m_digs (nx := nx) (u := u) (S := S) (hi := hi) (th := th) (lt := lt) (lp := lp) (sd := sd) h8 hd hm hi2 hD
  refine ⟨u', ?_, ?_⟩
  · unfold f11_readsStatement_K42 f11_readsDigits d_st
    rw [if_pos (show (0 : Int32) ≤ Int32.ofNat D by rw [Int32.le_iff_toInt_le, d_tn (by omega), d_z0]; omega), e]
    simp only [q_12, obd, d_su, q_p12, q_c, g1]
    by_cases c1 : 1 ≤ D ∧ d_dt (d_wm m d el (i + 1)) = false
    · simp only [if_pos c1, osm]
      rfl
    · simp only [if_neg c1]
      by_cases c2 : 2 ≤ D ∧ d_dt (d_wm m d el (i + 2)) = false
      · simp only [if_pos c2, osm]
        rfl
      · simp only [if_neg c2, osm, if_neg (show ¬ Int32.ofInt 1 = 0 by decide), q_c, q_here h8 hd hm (show i + D + 1 < 100000 by omega)]
        by_cases c3 : d_wm m d el (i + D + 1) = 59
        · rw [if_pos (show d_wm m d el (i + D + 1) = (Int8.ofInt 59).toInt32 from c3), if_pos c3]
          simp only [q_12, d_su, q_p12]
        · rw [if_neg (show ¬ d_wm m d el (i + D + 1) = (Int8.ofInt 59).toInt32 from c3), if_neg c3]
  · intro j hj
    refine g2 (fun c1 => ?_) (fun c2 => ?_)
    · unfold d_st at hj
      rw [e] at hj
      simp only [if_pos c1] at hj
      cases hj
    · unfold d_st at hj
      rw [e] at hj
      simp only [if_pos c2] at hj
      split at hj <;> cases hj
theorem m_reads {el : Nat → Int32} (h8 : Z (ma + 8) = d_A 800 el) (hd : d < 8) (hm : m ≤ 100) (hi2 : i < 200) : ∃ u', f11_readsStatement (d_rs Z ma hi th lt lp sd d m i u S, nx) ma = some (match d_st (d_wm m d el) i with
    | .inl b => (Int32.ofInt 0, (d_rs Z ma hi th lt lp sd d m b u' S, nx))
    | .inr j => (Int32.ofInt 1, (d_rs Z ma hi th lt lp sd d m j u' S, nx))) ∧ ∀ D j, d_dg (d_wm m d el i) = some D → d_st (d_wm m d el) i = .inr j → (1 ≤ D → u' 0 = d_wm m d el (i + 1) - (Int8.ofInt 48).toInt32) ∧ (2 ≤ D → u' 1 = d_wm m d el (i + 2) - (Int8.ofInt 48).toInt32) := by
  have k := fun {D : Nat} (hD : D ≤ 2) (e : d_dg (d_wm m d el i) = some D) => m_k42 (nx := nx) (u := u) (S := S) (hi := hi) (th := th) (lt := lt) (lp := lp) (sd := sd) h8 hd hm hi2 hD e
  unfold f11_readsStatement
  simp only [q_c, q_here h8 hd hm (show i < 100000 by omega), obd]
  have fin : ∀ {D : Nat} (hD : D ≤ 2) (e : d_dg (d_wm m d el i) = some D), ∃ u', f11_readsStatement_K42 (d_rs Z ma hi th lt lp sd d m i u S, nx) ma (Int32.ofNat D) = some (match d_st (d_wm m d el) i with
    | .inl b => (Int32.ofInt 0, (d_rs Z ma hi th lt lp sd d m b u' S, nx))
    | .inr j => (Int32.ofInt 1, (d_rs Z ma hi th lt lp sd d m j u' S, nx))) ∧ ∀ D j, d_dg (d_wm m d el i) = some D → d_st (d_wm m d el) i = .inr j → (1 ≤ D → u' 0 = d_wm m d el (i + 1) - (Int8.ofInt 48).toInt32) ∧ (2 ≤ D → u' 1 = d_wm m d el (i + 2) - (Int8.ofInt 48).toInt32) := fun {D} hD e => by
    obtain ⟨u', g1, g2⟩ := k hD e
    refine ⟨u', g1, fun D' j e' hj => ?_⟩
    rw [e] at e'
    cases e'
    exact g2 j hj
  by_cases h1 : d_wm m d el i = 112
  · rw [if_pos (show d_wm m d el i = (Int8.ofInt 112).toInt32 from h1)]
    unfold f11_readsStatement_K17
    exact fin (D := 2) (by omega) (by rw [h1]; decide)
  · rw [if_neg (show ¬ d_wm m d el i = (Int8.ofInt 112).toInt32 from h1)]
    by_cases h2 : d_wm m d el i = 119
    · rw [if_pos (show d_wm m d el i = (Int8.ofInt 119).toInt32 from h2)]
      unfold f11_readsStatement_K17
      exact fin (D := 2) (by omega) (by rw [h2]; decide)
    · rw [if_neg (show ¬ d_wm m d el i = (Int8.ofInt 119).toInt32 from h2)]
      by_cases h3 : d_wm m d el i = 108
      · rw [if_pos (show d_wm m d el i = (Int8.ofInt 108).toInt32 from h3)]
        exact fin (D := 1) (by omega) (by rw [h3]; decide)
      · rw [if_neg (show ¬ d_wm m d el i = (Int8.ofInt 108).toInt32 from h3)]
        by_cases h4 : d_wm m d el i = 117
        · rw [if_pos (show d_wm m d el i = (Int8.ofInt 117).toInt32 from h4)]
          exact fin (D := 0) (by omega) (by rw [h4]; decide)
        · rw [if_neg (show ¬ d_wm m d el i = (Int8.ofInt 117).toInt32 from h4)]
          have e : d_dg (d_wm m d el i) = none := by
            unfold d_dg
            rw [if_neg h3, if_neg h1, if_neg h4, if_neg h2]
          refine ⟨u, ?_, fun D j e' _ => by rw [e] at e'; cases e'⟩
          unfold f11_readsStatement_K42 d_st
          rw [if_neg (by decide), e]
theorem m_scan {el : Nat → Int32} (h8 : Z (ma + 8) = d_A 800 el) (hd : d < 8) (hm : m ≤ 100) : ∀ f i c fu u, (i = 0 ∨ i < m) → m < i + 2 * f → f < fu → ∃ u' i', iter (f11_league_L38 ma) fu (Int32.ofNat c, (d_rs Z ma hi th lt lp sd d m i u S, nx)) = some (match d_scan (d_wm m d el) m f i c with
    | .inl b => .inl ((Int16.ofInt (-1000)).toInt32 - Int32.ofNat b, (d_rs Z ma hi th lt lp sd d m b u' S, nx))
    | .inr N => .inr (Int32.ofNat N, (d_rs Z ma hi th lt lp sd d m i' u' S, nx)))
  | 0, i, c, fu, u, h1, h2, h3 => by omega
  | f + 1, i, c, 0, u, h1, h2, h3 => by omega
  | f + 1, i, c, fu + 1, u, h1, h2, h3 => by
    obtain ⟨u', g1, -⟩ := m_reads (nx := nx) (u := u) (S := S) (hi := hi) (th := th) (lt := lt) (lp := lp) (sd := sd) h8 hd hm (show i < 200 by omega)
    unfold d_scan
    cases e : d_st (d_wm m d el) i with
    | inl b =>
      rw [e] at g1
      have st : f11_league_L38 ma (Int32.ofNat c, (d_rs Z ma hi th lt lp sd d m i u S, nx)) = some (.inr (.inl ((Int16.ofInt (-1000)).toInt32 - Int32.ofNat b, (d_rs Z ma hi th lt lp sd d m b u' S, nx)))) := by
        unfold f11_league_L38
        simp only [q_c, g1, obd, if_pos (show Int32.ofInt 0 = 0 from rfl), q_12]
      exact ⟨u', 0, d_it1 _ st⟩
    | inr j =>
      rw [e] at g1
      obtain ⟨D, e1, e2, -⟩ := d_st_r e
      have hD := d_dg_2 e1
      have st : f11_league_L38 ma (Int32.ofNat c, (d_rs Z ma hi th lt lp sd d m i u S, nx)) = if j < m then some (.inl (Int32.ofNat (c + 1), (d_rs Z ma hi th lt lp sd d m j u' S, nx))) else some (.inr (.inr (Int32.ofNat (c + 1), (d_rs Z ma hi th lt lp sd d m j u' S, nx)))) := by
        unfold f11_league_L38
        simp only [q_c, g1, obd, if_neg (show ¬ Int32.ofInt 1 = 0 by decide), q_12, q_14, d_lt (show j < 2147483648 by omega) (show m < 2147483648 by omega), d_su]
      simp only
      by_cases q : j < m
      · rw [if_pos q] at st ⊢
        rw [d_itn _ st]
        exact m_scan h8 hd hm f j (c + 1) fu u' (Or.inr q) (by omega) (by omega)
      · rw [if_neg q] at st ⊢
        exact ⟨u', j, d_it1 _ st⟩
end READS
