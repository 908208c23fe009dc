/-! PURE: the relation between class and model; has, hasBoth, isOne, areTwo -/
def d_is (n : Nat) (p : Int32) : Bool := decide (0 ≤ p.toInt ∧ p.toInt < n)
theorem d_is_n {n : Nat} {p : Int32} (h : d_is n p = true) : ∃ i, i < n ∧ p = Int32.ofNat i := by
  unfold d_is at h
  rw [decide_eq_true_eq] at h
  refine ⟨p.toInt.toNat, by omega, ?_⟩
  rw [← Int32.toInt_inj, d_tn (by have := Int32.toInt_lt p; omega)]
  omega
theorem d_is_i {n i : Nat} (h : i < n) (hn : n < 900000) : d_is n (Int32.ofNat i) = true := by
  unfold d_is
  rw [d_tn (by omega), decide_eq_true_eq]
  omega
def d_CX (X : Nat → Option HO) (a : Nat) (hi : Int32) : Prop := X a = some (.inl (10, [.ref (a + 1), .ref (a + 2), .ref (a + 5), .ref (a + 8), .int hi, .ref (a + 11), .ref (a + 12), .ref (a + 13)]))
def d_MO (M : Nat → Option HO) (ma : Nat) (hi th po ba en lt lp sd : Int32) : Prop := M ma = some (.inl (11, [.ref (ma + 1), .ref (ma + 2), .ref (ma + 3), .ref (ma + 4), .ref (ma + 5), .ref (ma + 6), .ref (ma + 7), .ref (ma + 8), .ref (ma + 9), .ref (ma + 10), .int hi, .int th, .int po, .int ba, .int en, .ref (ma + 11), .int lt, .int lp, .int sd]))
theorem d_MO_Z {M : Nat → Option HO} {ma : Nat} {hi th po ba en lt lp sd : Int32} (h : d_MO M ma hi th po ba en lt lp sd) : d_MZ M ma := ⟨_, h, rfl⟩
/-- an address of a person -/
def d_ok (a nx q : Nat) : Prop := q = a + 1 ∨ (a + 14 ≤ q ∧ q < nx)
/-- a league -/
def d_LG (a nx : Nat) (X : Nat → Option HO) (ad : Nat) (P K F : Nat → Nat) (n : Nat) (lw : Int32) (B : Nat → Int32) : Prop := d_LX X ad P K F n lw ∧ X (ad + 2) = d_A 8 B ∧ ∀ i, i < 8 → d_ok a nx (P i)
def d_good (n : Nat) (B : Nat → Int32) (lw : Int32) : Prop := d_TB n B ∧ n ≤ 7 ∧ (lw = 1 ∨ lw = 2)
def d_SH (a nx : Nat) (X : Nat → Option HO) (kp so sz el kk kf : Nat → Int32) (d : Nat) (po ro : Option Nat) (c : Nat) : Prop :=
  (kp d = 0 ∧ po = none ∧ ro = none) ∨ (kp d = 1 ∧ ro = none ∧ ∃ q k f, po = some q ∧ d_ok a nx q ∧ d_PE X q k f ∧ kk d = Int32.ofNat k ∧ kf d = Int32.ofNat f) ∨ (kp d = 2 ∧ po = none ∧ ∃ r t m g, ro = some r ∧ a + 14 ≤ r ∧ r < nx ∧ a + 14 ≤ c ∧ c < nx ∧ X r = some (.inl (8, [.int (Int32.ofNat t), .ref c])) ∧ X c = d_A m g ∧ m ≤ 100 ∧ t < 3 ∧ so d = Int32.ofNat t ∧ sz d = Int32.ofNat m ∧ ∀ i, i < m → g i = el (100 * d + i))
/-- what stands on all shelves -/
def d_RS (a ma nx : Nat) (X M : Nat → Option HO) : Prop := ∃ (PS RS : Nat → Option Nat) (c : Nat → Nat) (kp so sz el kk kf : Nat → Int32), (X (a + 11) = some (.inr (.inr (false, 8, PS))) ∧ X (a + 12) = some (.inr (.inr (true, 8, RS)))) ∧ (M (ma + 5) = d_A 8 kp ∧ M (ma + 6) = d_A 8 so ∧ M (ma + 7) = d_A 8 sz ∧ M (ma + 8) = d_A 800 el ∧ M (ma + 9) = d_A 8 kk ∧ M (ma + 10) = d_A 8 kf) ∧ (∀ d, d < 8 → d_SH a nx X kp so sz el kk kf d (PS d) (RS d) (c d)) ∧ ∀ d e, d < 8 → e < 8 → d ≠ e → kp d = 2 → kp e = 2 → c d ≠ c e
def d_RN (a ma nx : Nat) (X M : Nat → Option HO) : Prop := ∃ P K F n lw B S, d_LG a nx X (a + 2) P K F n lw B ∧ d_good n B lw ∧ M (ma + 1) = d_A 26 S ∧ d_MS S n K F B lw
def d_RI (a ma nx : Nat) (X M : Nat → Option HO) (hi : Int32) : Prop := ∃ P K F n lw B S, d_LG a nx X (a + 8) P K F n lw B ∧ M (ma + 2) = d_A 26 S ∧ (hi = 0 ∨ hi = 1 ∧ d_good n B lw ∧ d_MS S n K F B lw)
/-- what holds nothing from call to call -/
def d_RD (a ma nx : Nat) (X M : Nat → Option HO) : Prop := (∃ P K F n lw B, d_LG a nx X (a + 5) P K F n lw B) ∧ (∃ t, X (a + 13) = d_A 8 t) ∧ d_PE X (a + 1) 0 0 ∧ (∃ D, M (ma + 3) = d_A 26 D) ∧ (∃ T, M (ma + 4) = d_A 26 T) ∧ ∃ u, M (ma + 11) = d_A 2 u
def d_R (a ma : Nat) (X M : Nat → Option HO) (nx : Nat) : Prop := ∃ hi, d_CX X a hi ∧ a + 14 ≤ nx ∧ (∃ th po ba en lt lp sd, d_MO M ma hi th po ba en lt lp sd) ∧ d_RN a ma nx X M ∧ d_RI a ma nx X M hi ∧ d_RD a ma nx X M ∧ d_RS a ma nx X M
theorem d_hRx (a ma : Nat) (X M : Nat → Option HO) (n : Nat) (h : d_R a ma X M n) : hcls (X, n) a = some 10 ∧ hcls (M, n) ma = some 11 := by
  obtain ⟨hi, h1, -, ⟨_, _, _, _, _, _, _, h2⟩, -⟩ := h
  exact ⟨d_hcls (σ := (X, n)) h1, d_hcls (σ := (M, n)) h2⟩
theorem d_LX_KF {X : Nat → Option HO} {ad n : Nat} {P K F : Nat → Nat} {lw : Int32} (L : d_LX X ad P K F n lw) : d_KF n K F := fun i hi => (L.2.1 i (by have := L.2.2; omega)).1.2
theorem d_cB_e {X : Nat → Option HO} {ad : Nat} {B : Nat → Int32} (h : X (ad + 2) = d_A 8 B) : d_cB X ad B = X := by
  funext q
  unfold d_cB va_up
  split
  · rename_i e; rw [e, h]
  · rfl
theorem d_mS_e {M : Nat → Option HO} {ma : Nat} {S : Nat → Int32} (h : M (ma + 1) = d_A 26 S) : d_mS M ma S = M := by
  funext q
  unfold d_mS va_up
  split
  · rename_i e; rw [e, h]
  · rfl
section CX
variable {X : Nat → Option HO} {a nx : Nat} {hi : Int32}
theorem c_f {k : Nat} (h : d_CX X a hi) : hfld (X, nx) [10] k a = ([.ref (a + 1), .ref (a + 2), .ref (a + 5), .ref (a + 8), .int hi, .ref (a + 11), .ref (a + 12), .ref (a + 13)] : List Value)[k]? := d_hfld (σ := (X, nx)) h rfl
theorem c_now (h : d_CX X a hi) : hfld (X, nx) [10] 1 a = some (.ref (a + 2)) := c_f h
theorem c_draft (h : d_CX X a hi) : hfld (X, nx) [10] 2 a = some (.ref (a + 5)) := c_f h
theorem c_pic (h : d_CX X a hi) : hfld (X, nx) [10] 3 a = some (.ref (a + 8)) := c_f h
theorem c_c {α : Type} (h : d_CX X a hi) (x : Option α) : ocl (X, nx) a 10 x = x := d_ocl (d_hcls (σ := (X, nx)) h) x
end CX
section HAS
variable {X : Nat → Option HO} {ad n nx : Nat} {P K F : Nat → Nat} {lw : Int32} {B : Nat → Int32}
theorem x_has (L : d_LX X ad P K F n lw) (p : Int32) : f2_has (d_cB X ad B, nx) ad p = some (d_i (d_is n p)) := by
  have hn := L.2.2
  unfold f2_has d_is
  simp only [x_n L, obd]
  by_cases h1 : p < 0
  · rw [if_pos h1, decide_eq_false]; rfl
    have := Int32.lt_iff_toInt_lt.mp h1
    rw [show (0 : Int32).toInt = 0 from rfl] at this
    omega
  · rw [if_neg h1]
    have q1 : 0 ≤ p.toInt := by
      rw [Int32.lt_iff_toInt_lt, show (0 : Int32).toInt = 0 from rfl] at h1
      omega
    by_cases h2 : Int32.ofNat n ≤ p
    · rw [if_pos h2, decide_eq_false]; rfl
      rw [Int32.le_iff_toInt_le, d_tn (by omega)] at h2
      omega
    · rw [if_neg h2, decide_eq_true]; rfl
      rw [Int32.le_iff_toInt_le, d_tn (by omega)] at h2
      omega
def d_two (n : Nat) (p q : Int32) : Bool := d_is n p && (d_is n q && decide (p ≠ q))
theorem d_two_n {n : Nat} {p q : Int32} (h : d_two n p q = true) : ∃ i j, i < n ∧ j < n ∧ i ≠ j ∧ p = Int32.ofNat i ∧ q = Int32.ofNat j := by
  unfold d_two at h
  rw [Bool.and_eq_true, Bool.and_eq_true, decide_eq_true_eq] at h
  obtain ⟨i, h1, h2⟩ := d_is_n h.1
  obtain ⟨j, h3, h4⟩ := d_is_n h.2.1
  exact ⟨i, j, h1, h3, fun e => h.2.2 (by rw [h2, h4, e]), h2, h4⟩
theorem x_two (L : d_LX X ad P K F n lw) (p q : Int32) : f2_hasBoth (d_cB X ad B, nx) ad p q = some (d_i (d_two n p q)) := by
  unfold f2_hasBoth d_two
  simp only [x_c L, x_has L, obd, d_i0]
  cases d_is n p <;> cases d_is n q <;> simp
  · rfl
  · rfl
  · rfl
  · by_cases e : p = q <;> simp [e, d_i]
end HAS
section ISONE
variable {Z : Nat → Option HO} {ma n nx : Nat} {S : Nat → Int32} {K F : Nat → Nat} {B : Nat → Int32} {lw : Int32}
theorem d_i_if (c : Prop) [Decidable c] : (if c then (1 : Int32) else 0) = d_i (decide c) := by
  by_cases h : c
  · rw [if_pos h, decide_eq_true h]; rfl
  · rw [if_neg h, decide_eq_false h]; rfl
theorem m_isOne (h : d_MZ Z ma) (hS : d_MS S n K F B lw) (hn : n ≤ 8) (p : Int32) : f11_isOne (d_mS Z ma S, nx) ma p = some (d_i (d_is n p)) := by
  unfold f11_isOne d_is
  simp only [m_f0 h, obd, orf, m_ld0, hS.1, isIn_e]
  rw [show ((Int32.ofNat n - Int32.ofInt 1).toInt64).toInt = (n : Int) - 1 from (show ∀ n, n < 9 → ((Int32.ofNat n - Int32.ofInt 1).toInt64).toInt = (n : Int) - 1 by decide) n (by omega), Int32.toInt_toInt64, show (Int64.ofNat 0).toInt = 0 by decide, d_i_if, d_isB]
  simp only [ogd]
  congr 3
  apply propext
  omega
theorem m_two (h : d_MZ Z ma) (hS : d_MS S n K F B lw) (hn : n ≤ 8) (p q : Int32) : f11_areTwo (d_mS Z ma S, nx) ma p q = some (d_i (d_two n p q)) := by
  unfold f11_areTwo d_two
  simp only [m_c h, m_isOne h hS hn, obd, d_i0]
  cases d_is n p <;> cases d_is n q <;> simp
  · rfl
  · rfl
  · rfl
  · by_cases e : p = q <;> simp [e, d_i]
end ISONE
