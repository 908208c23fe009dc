/-! PURE: tournaments by their upper triangle -/
theorem d_TB_ext {n : Nat} {B B' : Nat → Int32} (T : d_TB n B) (T' : d_TB n B') (h : ∀ p q, p < q → q < n → d_b (B p) q = d_b (B' p) q) : ∀ p, p < n → B p = B' p := by
  intro p hp
  apply d_bx
  intro q _
  by_cases c : n ≤ q
  · rw [T.1 p hp q c, T'.1 p hp q c]
  · by_cases e : p < q
    · exact h p q e (by omega)
    · by_cases e2 : p = q
      · rw [e2, T.2.1 q (by omega), T'.2.1 q (by omega)]
      · rw [T.2.2 q p (by omega) hp (by omega), T'.2.2 q p (by omega) hp (by omega), h q p (by omega) hp]
def d_ub (n : Nat) (u : Nat → Nat → Bool) : Nat → Int32 := fun i => d_mk n (fun j => if i < j then u i j else if j < i then !u j i else false)
theorem d_ub_b {n : Nat} (hn : n ≤ 8) (u : Nat → Nat → Bool) (i j : Nat) : d_b (d_ub n u i) j = (decide (j < n) && (if i < j then u i j else if j < i then !u j i else false)) := by
  unfold d_ub
  rw [d_mkb _ n (by omega)]
theorem d_TB_ub {n : Nat} (hn : n ≤ 8) (u : Nat → Nat → Bool) : d_TB n (d_ub n u) := by
  refine ⟨fun i hi j hj => ?_, fun i hi => ?_, fun i j hi hj e => ?_⟩
  · rw [d_ub_b hn, decide_eq_false (by omega)]; rfl
  · rw [d_ub_b hn, if_neg (by omega), if_neg (by omega)]; simp
  · rw [d_ub_b hn, d_ub_b hn, decide_eq_true hi, decide_eq_true hj]
    by_cases c : i < j
    · have c2 : ¬ j < i := by omega
      simp [c, c2]
    · have c2 : j < i := by omega
      simp [c, c2]
theorem d_ub_e {n : Nat} {B : Nat → Int32} (hn : n ≤ 8) (T : d_TB n B) {u : Nat → Nat → Bool} (h : ∀ p q, p < q → q < n → d_b (B p) q = u p q) : ∀ p, p < n → B p = d_ub n u p :=
  d_TB_ext T (d_TB_ub hn u) (fun p q h1 h2 => by rw [h p q h1 h2, d_ub_b hn, decide_eq_true h2, if_pos h1]; rfl)
theorem d_ub_lw {n : Nat} {B : Nat → Int32} (K F : Nat → Nat) (lw : Int32) (hn : n ≤ 8) (T : d_TB n B) {u : Nat → Nat → Bool} (h : ∀ p q, p < q → q < n → d_b (B p) q = u p q) : d_lw n K F B lw = d_lw n K F (d_ub n u) lw :=
  d_lw_c lw (fun i hi => ⟨rfl, rfl, d_ub_e hn T h i hi⟩)
theorem d_win_up {n : Nat} {B : Nat → Int32} (hn : n ≤ 8) {i j : Nat} (hi : i < n) (hj : j < n) (hij : i ≠ j) {p q : Nat} (hpq : p < q) (hq : q < n) : d_b (d_win B i j p) q = if p = i ∧ q = j then true else if p = j ∧ q = i then false else d_b (B p) q := by
  unfold d_win upd
  by_cases e1 : p = j
  · rw [if_pos e1, if_neg (fun e => hij e.symm), d_band, d_bnot _ (by omega), d_bone (by omega), if_neg (show ¬ (p = i ∧ q = j) by omega)]
    by_cases e2 : q = i
    · rw [if_pos ⟨e1, e2⟩]; simp [e2]
    · rw [if_neg (show ¬ (p = j ∧ q = i) by omega)]; simp [e2, e1]
  · rw [if_neg e1]
    by_cases e2 : p = i
    · rw [if_pos e2, d_bor, d_bone (by omega)]
      by_cases e3 : q = j
      · rw [if_pos ⟨e2, e3⟩]; simp [e3]
      · rw [if_neg (show ¬ (p = i ∧ q = j) by omega), if_neg (show ¬ (p = j ∧ q = i) by omega)]; simp [e3, e2]
    · rw [if_neg e2, if_neg (show ¬ (p = i ∧ q = j) by omega), if_neg (show ¬ (p = j ∧ q = i) by omega)]
