/-! PURE: a league as a text -/
def d_dg (x : Int32) : Option Nat := if x = 108 then some 1 else if x = 112 then some 2 else if x = 117 then some 0 else if x = 119 then some 2 else none
def d_dt (x : Int32) : Bool := decide (48 ≤ x.toInt ∧ x.toInt ≤ 57)
theorem d_dg_2 {x : Int32} {D : Nat} (h : d_dg x = some D) : D ≤ 2 := by
  unfold d_dg at h
  repeat' split at h
  all_goals cases h
  all_goals omega
/-- a statement from i on: the place of the first byte with which none can go on, or the place behind it -/
def d_st (w : Nat → Int32) (i : Nat) : Nat ⊕ Nat := match d_dg (w i) with
  | none => .inl i
  | some D => if 1 ≤ D ∧ d_dt (w (i + 1)) = false then .inl (i + 1) else if 2 ≤ D ∧ d_dt (w (i + 2)) = false then .inl (i + 2) else if w (i + D + 1) = 59 then .inr (i + D + 2) else .inl (i + D + 1)
def d_wd (m : Nat) (g : Nat → Int32) (z : Int32) : Nat → Int32 := fun i => if i < m then g i else z
theorem d_wd_c {m : Nat} {g g' : Nat → Int32} (h : ∀ i, i < m → g i = g' i) (j : Nat) : d_dg (d_wd m g (Int32.ofInt (-1)) j) = d_dg (d_wd m g' ((Int16.ofInt (-1000)).toInt32) j) ∧ d_dt (d_wd m g (Int32.ofInt (-1)) j) = d_dt (d_wd m g' ((Int16.ofInt (-1000)).toInt32) j) ∧ (d_wd m g (Int32.ofInt (-1)) j = 59 ↔ d_wd m g' ((Int16.ofInt (-1000)).toInt32) j = 59) := by
  unfold d_wd
  by_cases c : j < m
  · rw [if_pos c, if_pos c, h j c]
    exact ⟨rfl, rfl, Iff.rfl⟩
  · rw [if_neg c, if_neg c]
    decide
theorem d_st_c {w w' : Nat → Int32} (h : ∀ j, d_dg (w j) = d_dg (w' j) ∧ d_dt (w j) = d_dt (w' j) ∧ (w j = 59 ↔ w' j = 59)) (i : Nat) : d_st w i = d_st w' i := by
  unfold d_st
  rw [(h i).1]
  cases d_dg (w' i) with
  | none => rfl
  | some D =>
    simp only [(h (i + 1)).2.1, (h (i + 2)).2.1, (h (i + D + 1)).2.2]
theorem d_st_r {w : Nat → Int32} {i j : Nat} (h : d_st w i = .inr j) : ∃ D, d_dg (w i) = some D ∧ j = i + D + 2 ∧ (1 ≤ D → d_dt (w (i + 1)) = true) ∧ (2 ≤ D → d_dt (w (i + 2)) = true) ∧ w (i + D + 1) = 59 := by
  unfold d_st at h
  cases e : d_dg (w i) with
  | none => rw [e] at h; cases h
  | some D =>
    rw [e] at h
    simp only at h
    by_cases c1 : 1 ≤ D ∧ d_dt (w (i + 1)) = false
    · rw [if_pos c1] at h; cases h
    · rw [if_neg c1] at h
      by_cases c2 : 2 ≤ D ∧ d_dt (w (i + 2)) = false
      · rw [if_pos c2] at h; cases h
      · rw [if_neg c2] at h
        by_cases c3 : w (i + D + 1) = 59
        · rw [if_pos c3] at h
          cases h
          refine ⟨D, rfl, rfl, fun q => ?_, fun q => ?_, c3⟩
          · cases z : d_dt (w (i + 1)) with
            | true => rfl
            | false => exact absurd ⟨q, z⟩ c1
          · cases z : d_dt (w (i + 2)) with
            | true => rfl
            | false => exact absurd ⟨q, z⟩ c2
        · rw [if_neg c3] at h; cases h
theorem d_st_l {w : Nat → Int32} {i b : Nat} (h : d_st w i = .inl b) : b ≤ i + 3 := by
  unfold d_st at h
  cases e : d_dg (w i) with
  | none => rw [e] at h; cases h; omega
  | some D =>
    have := d_dg_2 e
    rw [e] at h
    simp only at h
    repeat' split at h
    all_goals cases h
    all_goals omega
/-- all statements: the place of the first fault, or how many there are -/
def d_scan (w : Nat → Int32) (m : Nat) : Nat → Nat → Nat → Nat ⊕ Nat
  | 0, i, _ => .inl i
  | f + 1, i, c => match d_st w i with
    | .inl b => .inl b
    | .inr j => if j < m then d_scan w m f j (c + 1) else .inr (c + 1)
theorem d_scan_c {w w' : Nat → Int32} (h : ∀ i, d_st w i = d_st w' i) (m : Nat) : ∀ f i c, d_scan w m f i c = d_scan w' m f i c
  | 0, _, _ => rfl
  | f + 1, i, c => by
    unfold d_scan
    rw [h i]
    cases d_st w' i with
    | inl b => rfl
    | inr j => simp only [d_scan_c h m f j (c + 1)]
/-- so many statements from i on, and nothing behind them -/
def d_wh (w : Nat → Int32) (m : Nat) : Nat → Nat → Prop
  | 0, i => m ≤ i
  | N + 1, i => i < m ∧ ∃ j, d_st w i = .inr j ∧ d_wh w m N j
theorem d_dg_r {m : Nat} {g : Nat → Int32} {i D : Nat} {z : Int32} (hz : d_dg z = none) (h : d_dg (d_wd m g z i) = some D) : i < m := by
  by_cases c : i < m
  · exact c
  · unfold d_wd at h
    rw [if_neg c, hz] at h
    cases h
theorem d_scan_wh {m : Nat} {g : Nat → Int32} {z : Int32} (hz : d_dg z = none) : ∀ f i c N, d_scan (d_wd m g z) m f i c = .inr N → ∃ k, N = c + k ∧ d_wh (d_wd m g z) m k i
  | 0, _, _, _, h => by cases h
  | f + 1, i, c, N, h => by
    unfold d_scan at h
    cases e : d_st (d_wd m g z) i with
    | inl b => rw [e] at h; cases h
    | inr j =>
      rw [e] at h
      simp only at h
      obtain ⟨D, e1, e2, -⟩ := d_st_r e
      have hi := d_dg_r hz e1
      by_cases q : j < m
      · rw [if_pos q] at h
        obtain ⟨k, h1, h2⟩ := d_scan_wh hz f j (c + 1) N h
        exact ⟨k + 1, by omega, hi, j, e, h2⟩
      · rw [if_neg q] at h
        cases h
        exact ⟨1, rfl, hi, j, e, by show m ≤ j; omega⟩
theorem d_wh_b {w : Nat → Int32} {m : Nat} : ∀ N i, d_wh w m N i → 1 ≤ N → i + 2 * (N - 1) < m
  | 0, _, _, h => by omega
  | 1, i, h, _ => by have := h.1; omega
  | N + 2, i, h, _ => by
    obtain ⟨h1, j, h2, h3⟩ := h
    obtain ⟨D, -, e2, -⟩ := d_st_r h2
    have := d_wh_b (N + 1) j h3 (by omega)
    omega
theorem d_scan_b {w : Nat → Int32} {m : Nat} : ∀ f i c b, (i = 0 ∨ i < m) → m < i + 2 * f → d_scan w m f i c = .inl b → b ≤ m + 3
  | 0, i, c, b, h1, h2, _ => by omega
  | f + 1, i, c, b, h1, h2, h => by
    unfold d_scan at h
    cases e : d_st w i with
    | inl b' => rw [e] at h; cases h; have := d_st_l e; omega
    | inr j =>
      rw [e] at h
      simp only at h
      obtain ⟨D, e1, e2, -⟩ := d_st_r e
      by_cases q : j < m
      · rw [if_pos q] at h
        exact d_scan_b f j (c + 1) b (Or.inr q) (by omega) h
      · rw [if_neg q] at h; cases h
/-! the class -/
theorem x_dgb (x : Int32) : f10_digitsBehind x = some (match d_dg x with
    | some D => Int32.ofNat D
    | none => Int32.ofInt (-1)) := by
  unfold f10_digitsBehind d_dg
  by_cases h1 : x = 108
  · rw [if_pos h1, if_pos h1]; rfl
  · rw [if_neg h1, if_neg h1]
    by_cases h2 : x = 112
    · rw [if_pos h2, if_pos h2]; rfl
    · rw [if_neg h2, if_neg h2]
      by_cases h3 : x = 117
      · rw [if_pos h3, if_pos h3]; rfl
      · rw [if_neg h3, if_neg h3]
        by_cases h4 : x = 119
        · rw [if_pos h4, if_pos h4]; rfl
        · rw [if_neg h4, if_neg h4]
section XTEXT
variable {X : Nat → Option HO} {nx r c m : Nat} {g : Nat → Int32}
theorem r_atn (W : d_RW X r c 0 m g) {i : Nat} (hi : i < 100000) : f8_at (X, nx) r (Int32.ofNat i) = some (d_wd m g (Int32.ofInt (-1)) i) := by
  have hm := W.2.2.1
  rw [r_at W]
  unfold d_wd d_is
  rw [d_tn (by omega), d_nn (by omega)]
  by_cases c : i < m
  · rw [if_pos c, if_pos (decide_eq_true (by omega))]
  · rw [if_neg c, if_neg (by rw [decide_eq_true_eq]; omega)]
theorem x_dig (W : d_RW X r c 0 m g) (q : Int32) {e k : Nat} (he : e < 1000) (hk : k < 1000) : f10_brokenPlace_L40 (X, nx) r q (Int32.ofNat e) (Int32.ofNat k) = if e ≤ k then some (.inr (.inr ())) else if d_dt (d_wd m g (Int32.ofInt (-1)) k) = true then some (.inl (Int32.ofNat (k + 1))) else some (.inr (.inl (Int32.ofNat k))) := by
  unfold f10_brokenPlace_L40
  simp only [d_le (show e < 2147483648 by omega) (show k < 2147483648 by omega), r_c W, r_atn W (show k < 100000 by omega), obd, d_su]
  by_cases c1 : e ≤ k
  · simp only [if_pos c1]
  · simp only [if_neg c1]
    unfold d_dt
    generalize d_wd m g (Int32.ofInt (-1)) k = x
    by_cases h1 : x < (Int8.ofInt 48).toInt32
    · have h2 := h1
      rw [Int32.lt_iff_toInt_lt, show ((Int8.ofInt 48).toInt32).toInt = 48 by decide] at h2
      rw [if_pos h1, if_neg (by rw [decide_eq_true_eq]; omega)]
    · have h2 := h1
      rw [Int32.lt_iff_toInt_lt, show ((Int8.ofInt 48).toInt32).toInt = 48 by decide] at h2
      rw [if_neg h1]
      by_cases h3 : x ≤ (Int8.ofInt 57).toInt32
      · have h4 := h3
        rw [Int32.le_iff_toInt_le, show ((Int8.ofInt 57).toInt32).toInt = 57 by decide] at h4
        rw [if_pos h3, if_pos (decide_eq_true (by omega))]
      · have h4 := h3
        rw [Int32.le_iff_toInt_le, show ((Int8.ofInt 57).toInt32).toInt = 57 by decide] at h4
        rw [if_neg h3, if_neg (by rw [decide_eq_true_eq]; omega)]
theorem d_it1 {V R : Type} {step : V → Option (V ⊕ R)} {v : V} {r : R} (f : Nat) (h : step v = some (.inr r)) : iter step (f + 1) v = some r := by
  unfold iter
  rw [h]
theorem d_itn {V R : Type} {step : V → Option (V ⊕ R)} {v v' : V} (f : Nat) (h : step v = some (.inl v')) : iter step (f + 1) v = iter step f v' := by
  conv => lhs; unfold iter
  rw [h]
theorem x_digs (W : d_RW X r c 0 m g) (q : Int32) {i D : Nat} (hi : i < 200) (hD : D ≤ 2) : iter (f10_brokenPlace_L40 (X, nx) r q (Int32.ofNat (i + D + 1))) FU (Int32.ofNat (i + 1)) = some (if 1 ≤ D ∧ d_dt (d_wd m g (Int32.ofInt (-1)) (i + 1)) = false then .inl (Int32.ofNat (i + 1)) else if 2 ≤ D ∧ d_dt (d_wd m g (Int32.ofInt (-1)) (i + 2)) = false then .inl (Int32.ofNat (i + 2)) else .inr ()) := by
  have s1 := x_dig (nx := nx) W q (show i + D + 1 < 1000 by omega) (show i + 1 < 1000 by omega)
  have s2 := x_dig (nx := nx) W q (show i + D + 1 < 1000 by omega) (show i + 2 < 1000 by omega)
  have s3 := x_dig (nx := nx) W q (show i + D + 1 < 1000 by omega) (show i + 3 < 1000 by omega)
  rw [show FU = 999997 + 1 + 1 + 1 from rfl]
  by_cases d0 : D = 0
  · rw [if_pos (show i + D + 1 ≤ i + 1 by omega)] at s1
    rw [d_it1 _ s1, if_neg (by omega), if_neg (by omega)]
  · rw [if_neg (show ¬ i + D + 1 ≤ i + 1 by omega)] at s1
    cases e1 : d_dt (d_wd m g (Int32.ofInt (-1)) (i + 1)) with
    | false =>
      rw [e1, if_neg (by simp)] at s1
      rw [d_it1 _ s1, if_pos ⟨by omega, rfl⟩]
    | true =>
      rw [e1, if_pos rfl] at s1
      rw [d_itn _ s1, if_neg (fun z => by cases z.2)]
      by_cases d1 : D = 1
      · rw [if_pos (show i + D + 1 ≤ i + 2 by omega)] at s2
        rw [d_it1 _ s2, if_neg (by omega)]
      · rw [if_neg (show ¬ i + D + 1 ≤ i + 2 by omega)] at s2
        cases e2 : d_dt (d_wd m g (Int32.ofInt (-1)) (i + 2)) with
        | false =>
          rw [e2, if_neg (by simp)] at s2
          rw [d_it1 _ s2, if_pos ⟨by omega, rfl⟩]
        | true =>
          rw [e2, if_pos rfl] at s2
          rw [if_pos (show i + D + 1 ≤ i + 3 by omega)] at s3
          rw [d_itn _ s2, d_it1 _ s3, if_neg (fun z => by cases z.2)]
theorem x_st14 (W : d_RW X r c 0 m g) {i : Nat} (hi : i < 200) : f10_brokenPlace_K14 (X, nx) r (Int32.ofNat i) = some (match d_st (d_wd m g (Int32.ofInt (-1))) i with
    | .inl b => .inr (.inl (Int32.ofNat b))
    | .inr j => .inl (Int32.ofNat j)) := by
  unfold f10_brokenPlace_K14 d_st
  simp only [r_c W, r_atn W (show i < 100000 by omega), obd, x_dgb]
  cases e : d_dg (d_wd m g (Int32.ofInt (-1)) i) with
  | none =>
    simp only
    rw [if_neg (by decide)]
  | some D =>
    have hD := d_dg_2 e
    simp only
    rw [if_pos (show (0 : Int32) ≤ Int32.ofNat D by rw [Int32.le_iff_toInt_le, d_tn (by omega), d_z0]; omega)]
    simp only [d_ad, d_su, x_digs W _ hi hD]
    by_cases c1 : 1 ≤ D ∧ d_dt (d_wd m g (Int32.ofInt (-1)) (i + 1)) = false
    · rw [if_pos c1, if_pos c1]
      rfl
    · rw [if_neg c1, if_neg c1]
      by_cases c2 : 2 ≤ D ∧ d_dt (d_wd m g (Int32.ofInt (-1)) (i + 2)) = false
      · rw [if_pos c2, if_pos c2]
        rfl
      · rw [if_neg c2, if_neg c2]
        simp only [osm, r_atn W (show i + D + 1 < 100000 by omega)]
        by_cases c3 : d_wd m g (Int32.ofInt (-1)) (i + D + 1) = 59
        · rw [if_pos (show d_wd m g (Int32.ofInt (-1)) (i + D + 1) = (Int8.ofInt 59).toInt32 from c3), if_pos c3]
          rw [show Int32.ofNat D + Int32.ofInt 2 = Int32.ofNat (D + 2) from d_ad D 2, d_ad]
          rfl
        · rw [if_neg (show ¬ d_wd m g (Int32.ofInt (-1)) (i + D + 1) = (Int8.ofInt 59).toInt32 from c3), if_neg c3]
theorem x_scan (W : d_RW X r c 0 m g) : ∀ f i n fu, (i = 0 ∨ i < m) → m < i + 2 * f → f + 1 < fu → iter (f10_brokenPlace_L2 (X, nx) r) fu (Int32.ofNat i) = some (match d_scan (d_wd m g (Int32.ofInt (-1))) m f i n with
    | .inl b => .inl (Int32.ofNat b)
    | .inr _ => .inr ())
  | 0, i, n, fu, h1, h2, _ => by omega
  | f + 1, i, n, 0, h1, h2, h3 => by omega
  | f + 1, i, n, fu + 1, h1, h2, h3 => by
    have hm := W.2.2.1
    have st : f10_brokenPlace_L2 (X, nx) r (Int32.ofNat i) = f10_brokenPlace_K14 (X, nx) r (Int32.ofNat i) := by
      unfold f10_brokenPlace_L2
      simp only [r_c W, r_size W, obd]
      by_cases z : i = 0
      · subst z; rw [if_pos (show Int32.ofNat 0 = 0 from rfl)]
      · have z2 : ¬ Int32.ofNat i = 0 := (d_pos (show 1 ≤ i by omega) (by omega)).2
        simp only [if_neg z2, d_lef (show i < m by omega) (by omega), if_false]
    rw [x_st14 W (show i < 200 by omega)] at st
    unfold d_scan
    cases e : d_st (d_wd m g (Int32.ofInt (-1))) i with
    | inl b =>
      rw [e] at st
      rw [d_it1 _ st]
    | inr j =>
      rw [e] at st
      rw [d_itn _ st]
      obtain ⟨D, e1, e2, -⟩ := d_st_r e
      have hD := d_dg_2 e1
      simp only
      by_cases q : j < m
      · rw [if_pos q]
        exact x_scan W f j (n + 1) fu (Or.inr q) (by omega) (by omega)
      · rw [if_neg q]
        obtain ⟨fu', rfl⟩ : ∃ k, fu = k + 1 := ⟨fu - 1, by omega⟩
        refine d_it1 _ ?_
        have z2 : ¬ Int32.ofNat j = 0 := (d_pos (show 1 ≤ j by omega) (by omega)).2
        unfold f10_brokenPlace_L2
        simp only [if_neg z2, r_c W, r_size W, obd, d_le (show m < 2147483648 by omega) (show j < 2147483648 by omega)]
        rw [if_pos (by omega)]
end XTEXT
