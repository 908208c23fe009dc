/-! PURE: odds: numbers -/
abbrev d_L (a : Nat) : Int64 := Int64.ofNat a
theorem d_Lt {a : Nat} (h : a < 4611686018427387904) : (d_L a).toInt = a := Int64.toInt_ofNat_of_lt (Nat.lt_of_lt_of_le h (by decide))
theorem d_Le {a b : Nat} (ha : a < 4611686018427387904) (hb : b < 4611686018427387904) : (d_L a = d_L b) = (a = b) := by
  rw [← Int64.toInt_inj, d_Lt ha, d_Lt hb]
  apply propext
  constructor <;> intro h <;> omega
theorem d_Ld {a b : Nat} (ha : a < 4611686018427387904) (hb : b < 4611686018427387904) : d_L a / d_L b = d_L (a / b) := (Int64.ofNat_div (Nat.lt_of_lt_of_le ha (by decide)) (Nat.lt_of_lt_of_le hb (by decide))).symm
theorem d_Lmd {a b : Nat} (ha : a < 4611686018427387904) (hb : b < 4611686018427387904) : d_L a - d_L a / d_L b * d_L b = d_L (a % b) := by
  have e : a = b * (a / b) + a % b := (Nat.div_add_mod a b).symm
  have e2 : a / b * b = b * (a / b) := Nat.mul_comm _ _
  rw [d_Ld ha hb, show d_L (a / b) * d_L b = d_L (a / b * b) from (Int64.ofNat_mul _ _).symm, show d_L a - d_L (a / b * b) = d_L (a - a / b * b) from (Int64.ofNat_sub _ _ (by omega)).symm]
  congr 1
  omega
/-- Euclid comes to an end in so many steps -/
def d_eu : Nat → Nat → Nat → Prop
  | 0, _, b => b = 0
  | f + 1, a, b => b = 0 ∨ d_eu f b (a % b)
theorem d_eu_ok : ∀ f a b, b ≤ a → a * b < 2 ^ f → d_eu f a b
  | 0, a, b, h, h2 => by
    show b = 0
    by_cases z : b = 0
    · exact z
    · have h3 : 1 * 1 ≤ a * b := Nat.mul_le_mul (by omega) (by omega)
      rw [Nat.pow_zero] at h2
      omega
  | f + 1, a, b, h, h2 => by
    show b = 0 ∨ d_eu f b (a % b)
    by_cases z : b = 0
    · exact Or.inl z
    · refine Or.inr (d_eu_ok f b (a % b) (Nat.le_of_lt (Nat.mod_lt _ (by omega))) ?_)
      have l1 : a % b < b := Nat.mod_lt _ (by omega)
      have l2 : b + a % b ≤ a := by
        have e : a = b * (a / b) + a % b := (Nat.div_add_mod a b).symm
        have q : 1 ≤ a / b := (Nat.le_div_iff_mul_le (by omega)).mpr (by omega)
        have q2 : b * 1 ≤ b * (a / b) := Nat.mul_le_mul (Nat.le_refl b) q
        omega
      have l3 : (2 * (a % b)) * b ≤ a * b := Nat.mul_le_mul (by omega) (Nat.le_refl b)
      have l4 : (2 * (a % b)) * b = 2 * (b * (a % b)) := by rw [Nat.mul_assoc, Nat.mul_comm (a % b) b]
      rw [Nat.pow_succ] at h2
      omega
theorem d_gcd (a b : Nat) : Nat.gcd b (a % b) = Nat.gcd a b := by
  rw [Nat.gcd_comm a b, Nat.gcd_rec b a, Nat.gcd_comm]
theorem x_com : ∀ f a b s fu, a < 4611686018427387904 → b < 4611686018427387904 → s + f < 128 → f < fu → d_eu f a b → iter f10_commonDivisor_L9 fu (d_L a, d_L b, Int32.ofNat s) = some (d_L (Nat.gcd a b))
  | f, a, b, s, 0, _, _, _, h, _ => by omega
  | 0, a, b, s, fu + 1, ha, hb, hs, hf, h => by
    have hz : b = 0 := h
    subst hz
    unfold iter
    unfold f10_commonDivisor_L9
    simp only [show (Int16.ofInt 128).toInt32 = Int32.ofNat 128 by decide, d_lef (show s < 128 by omega) (by omega), if_false, lg_cmp_self, if_true, Nat.gcd_zero_right]
  | f + 1, a, b, s, fu + 1, ha, hb, hs, hf, h => by
    have h0 : b = 0 ∨ d_eu f b (a % b) := h
    by_cases z : b = 0
    · have st : f10_commonDivisor_L9 (d_L a, d_L b, Int32.ofNat s) = some (.inr (d_L a)) := by
        subst z
        unfold f10_commonDivisor_L9
        simp only [show (Int16.ofInt 128).toInt32 = Int32.ofNat 128 by decide, d_lef (show s < 128 by omega) (by omega), if_false, lg_cmp_self, if_true]
      unfold iter
      rw [st, z, Nat.gcd_zero_right]
    · have nz : ¬ d_L b = d_L 0 := by rw [d_Le hb (by omega)]; exact z
      have nz0 : ¬ d_L b = 0 := nz
      have nz2 : ¬ lg_cmp (d_L b) (Int64.ofNat 0) = 0 := fun q => nz ((lg_cmp_eq _ _).mp q)
      have st : f10_commonDivisor_L9 (d_L a, d_L b, Int32.ofNat s) = some (.inl (d_L b, d_L (a % b), Int32.ofNat (s + 1))) := by
        unfold f10_commonDivisor_L9
        simp only [show (Int16.ofInt 128).toInt32 = Int32.ofNat 128 by decide, d_lef (show s < 128 by omega) (by omega), if_false]
        rw [if_neg nz2, onzl, if_neg nz0, d_Lmd ha hb, d_su]
      have hr : a % b < 4611686018427387904 := Nat.lt_trans (Nat.mod_lt _ (by omega)) hb
      have := x_com f b (a % b) (s + 1) fu hb hr (by omega) (by omega) (h0.resolve_left z)
      rw [d_gcd] at this
      unfold iter
      rw [st]
      exact this
theorem m_com : ∀ f a b fu, a < 4611686018427387904 → b < 4611686018427387904 → f < fu → d_eu f a b → f11_common fu (d_L a) (d_L b) = some (d_L (Nat.gcd a b))
  | f, a, b, 0, _, _, h, _ => by omega
  | 0, a, b, fu + 1, ha, hb, hf, h => by
    have hz : b = 0 := h
    subst hz
    show f11_common_B (f11_common fu) _ _ = _
    unfold f11_common_B
    rw [if_pos (show lg_cmp (d_L 0) (Int64.ofNat 0) = 0 from lg_cmp_self _), Nat.gcd_zero_right]
  | f + 1, a, b, fu + 1, ha, hb, hf, h => by
    have h0 : b = 0 ∨ d_eu f b (a % b) := h
    show f11_common_B (f11_common fu) _ _ = _
    unfold f11_common_B
    by_cases z : b = 0
    · subst z
      rw [if_pos (show lg_cmp (d_L 0) (Int64.ofNat 0) = 0 from lg_cmp_self _), Nat.gcd_zero_right]
    · have nz : ¬ d_L b = d_L 0 := by rw [d_Le hb (by omega)]; exact z
      have nz0 : ¬ d_L b = 0 := nz
      have nz2 : ¬ lg_cmp (d_L b) (Int64.ofNat 0) = 0 := fun q => nz ((lg_cmp_eq _ _).mp q)
      rw [if_neg nz2, onzl, if_neg nz0, d_Lmd ha hb]
      have hr : a % b < 4611686018427387904 := Nat.lt_trans (Nat.mod_lt _ (by omega)) hb
      have := m_com f b (a % b) fu hb hr (by omega) (h0.resolve_left z)
      rw [d_gcd] at this
      rw [this]
      rfl
theorem d_eu_66 {a b : Nat} (ha : a < 8589934592) (hb : b < 8589934592) : d_eu 67 a b := by
  show b = 0 ∨ d_eu 66 b (a % b)
  by_cases z : b = 0
  · exact Or.inl z
  · refine Or.inr (d_eu_ok 66 b (a % b) (Nat.le_of_lt (Nat.mod_lt _ (by omega))) ?_)
    have h1 : a % b < 8589934592 := Nat.lt_trans (Nat.mod_lt _ (by omega)) hb
    exact Nat.lt_of_lt_of_le (Nat.mul_lt_mul_of_lt_of_le hb (Nat.le_of_lt h1) (by omega)) (by decide)
theorem x_common {a b : Nat} (ha : a < 8589934592) (hb : b < 8589934592) : f10_commonDivisor (d_L a) (d_L b) = some (d_L (Nat.gcd a b)) := by
  unfold f10_commonDivisor
  rw [show iter f10_commonDivisor_L9 FU (d_L a, d_L b, Int32.ofInt 0) = _ from x_com 67 a b 0 FU (by omega) (by omega) (by omega) (by unfold FU; omega) (d_eu_66 ha hb)]
  rfl
theorem m_common {a b : Nat} (ha : a < 8589934592) (hb : b < 8589934592) : f11_common 100 (d_L a) (d_L b) = some (d_L (Nat.gcd a b)) := m_com 67 a b 100 (by omega) (by omega) (by omega) (d_eu_66 ha hb)
/-! sums and products -/
def d_prod : Nat → (Nat → Nat) → Nat
  | 0, _ => 1
  | m + 1, f => d_prod m f * f m
theorem d_prod_c {f g : Nat → Nat} : ∀ {m : Nat}, (∀ i, i < m → f i = g i) → d_prod m f = d_prod m g
  | 0, _ => rfl
  | m + 1, h => by
    show d_prod m f * f m = d_prod m g * g m
    rw [d_prod_c (fun i hi => h i (by omega)), h m (by omega)]
def d_prr (lo m : Nat) (t : Nat → Nat) : Nat := d_prod m (fun j => if lo ≤ j then t j else 1)
theorem d_prod_1 {f : Nat → Nat} : ∀ {m : Nat}, (∀ i, i < m → f i = 1) → d_prod m f = 1
  | 0, _ => rfl
  | m + 1, h => by
    show d_prod m f * f m = 1
    rw [d_prod_1 (fun i hi => h i (by omega)), h m (by omega)]
theorem d_prr0 (lo : Nat) (t : Nat → Nat) : d_prr lo lo t = 1 := d_prod_1 (fun i hi => if_neg (by omega))
theorem d_prrs {lo m : Nat} (h : lo ≤ m) (t : Nat → Nat) : d_prr lo (m + 1) t = d_prr lo m t * t m := by
  show d_prod m _ * (if lo ≤ m then t m else 1) = _
  rw [if_pos h]; rfl
theorem d_prod_le {f : Nat → Nat} {c : Nat} : ∀ {m : Nat}, (∀ i, i < m → 1 ≤ f i ∧ f i ≤ c) → 1 ≤ d_prod m f ∧ d_prod m f ≤ c ^ m
  | 0, _ => by show 1 ≤ 1 ∧ 1 ≤ c ^ 0; rw [Nat.pow_zero]; omega
  | m + 1, h => by
    have ih := d_prod_le (f := f) (c := c) (m := m) (fun i hi => h i (by omega))
    show 1 ≤ d_prod m f * f m ∧ d_prod m f * f m ≤ c ^ (m + 1)
    have h1 : 1 * 1 ≤ d_prod m f * f m := Nat.mul_le_mul ih.1 (h m (by omega)).1
    have h2 : d_prod m f * f m ≤ c ^ m * c := Nat.mul_le_mul ih.2 (h m (by omega)).2
    rw [Nat.pow_succ]
    omega
theorem d_sum_r (f : Nat → Nat) (a : Nat) : ∀ b, d_sum (a + b) f = d_sum a f + d_sum b (fun i => f (a + i))
  | 0 => rfl
  | b + 1 => by
    show d_sum (a + b) f + f (a + b) = d_sum a f + (d_sum b (fun i => f (a + i)) + f (a + b))
    rw [d_sum_r f a b]; omega
theorem d_sum_x (f : Nat → Nat) (c : Nat) : ∀ m, d_sum m (fun i => f i * c) = d_sum m f * c
  | 0 => by show 0 = 0 * c; rw [Nat.zero_mul]
  | m + 1 => by
    show d_sum m (fun i => f i * c) + f m * c = (d_sum m f + f m) * c
    rw [d_sum_x f c m, Nat.add_mul]
theorem d_sum_le {f g : Nat → Nat} : ∀ {m : Nat}, (∀ i, i < m → f i ≤ g i) → d_sum m f ≤ d_sum m g
  | 0, _ => Nat.le_refl _
  | m + 1, h => by
    have := d_sum_le (f := f) (g := g) (m := m) (fun i hi => h i (by omega))
    have := h m (by omega)
    show d_sum m f + f m ≤ d_sum m g + g m
    omega
theorem d_expand (x y : Nat → Nat) : ∀ m, d_sum (2 ^ m) (fun w => d_prod m (fun k => if w.testBit k = true then x k else y k)) = d_prod m (fun k => x k + y k)
  | 0 => rfl
  | m + 1 => by
    show _ = d_prod m (fun k => x k + y k) * (x m + y m)
    rw [show 2 ^ (m + 1) = 2 ^ m + 2 ^ m by rw [Nat.pow_succ]; omega, d_sum_r]
    rw [d_sum_c (g := fun w => d_prod m (fun k => if w.testBit k = true then x k else y k) * y m) (fun w hw => by
      show d_prod m (fun k => if w.testBit k = true then x k else y k) * (if w.testBit m = true then x m else y m) = _
      rw [if_neg (by rw [Nat.testBit_lt_two_pow hw]; simp)])]
    rw [d_sum_c (f := fun i => d_prod (m + 1) (fun k => if (2 ^ m + i).testBit k = true then x k else y k)) (g := fun w => d_prod m (fun k => if w.testBit k = true then x k else y k) * x m) (fun w hw => by
      show d_prod m (fun k => if (2 ^ m + w).testBit k = true then x k else y k) * (if (2 ^ m + w).testBit m = true then x m else y m) = _
      rw [if_pos (by rw [Nat.testBit_two_pow_add_eq, Nat.testBit_lt_two_pow hw]; rfl), d_prod_c (g := fun k => if w.testBit k = true then x k else y k) (fun k hk => by
        show (if (2 ^ m + w).testBit k = true then x k else y k) = _
        rw [Nat.testBit_two_pow_add_gt hk])])]
    rw [d_sum_x, d_sum_x, d_expand x y m, ← Nat.mul_add, Nat.add_comm (y m) (x m)]
theorem d_ppairs (t : Nat → Nat → Nat) {n : Nat} (hn : n ≤ 4) : d_prod (n * (n - 1) / 2) (fun k => t (tL k) (tG k)) = d_prod n (fun i => d_prr (i + 1) n (fun j => t i j)) := by
  rcases (show n = 0 ∨ n = 1 ∨ n = 2 ∨ n = 3 ∨ n = 4 by omega) with rfl | rfl | rfl | rfl | rfl
  · rfl
  · rfl
  · simp [d_prod, d_prr, tL, tG]
  · simp [d_prod, d_prr, tL, tG]; try ac_rfl
  · simp [d_prod, d_prr, tL, tG]; try ac_rfl
