/-! PURE: small tests -/
theorem ps_step {R : (Nat → Option HO) → (Nat → Option HO) → Nat → Prop} {X M : Nat → Option HO} {n : Nat} {α : Type} {f : Option α} {g : Nat → Option α} {r : α} (hf : f = some r) (hg : ∀ k, g k = some r) (hR : R X M n) :
    ∃ (r : α) (X' : Nat → Option HO) (n' : Nat) (M' : Nat → Option HO) (n'' : Nat), obd f (fun r => some (r, ((X, n) : HM))) = some (r, (X', n')) ∧ obd (g n') (fun r => some (r, ((M, n') : HM))) = some (r, (M', n'')) ∧ R X' M' n'' :=
  ⟨r, X, n, M, n, by rw [hf]; rfl, by rw [hg]; rfl, hR⟩
theorem lg_lt0 (x y : Int64) : lg_cmp x y < 0 ↔ x.toInt < y.toInt := by
  have h := lg_cmp_ge x y
  rw [Int64.le_iff_toInt_le] at h
  have h2 : lg_cmp x y < 0 ↔ ¬ 0 ≤ lg_cmp x y := by
    rw [Int32.lt_iff_toInt_lt, Int32.le_iff_toInt_le]
    omega
  rw [h2, h]
  omega
theorem lg_gt0 (x y : Int64) : 0 < lg_cmp x y ↔ y.toInt < x.toInt := by
  rw [lg_cmp_gt, Int64.lt_iff_toInt_lt]
theorem isIn_e (p q r : Int64) : f11_isIn p q r = some (if q.toInt ≤ p.toInt ∧ p.toInt ≤ r.toInt then 1 else 0) := by
  unfold f11_isIn
  by_cases h1 : p.toInt < q.toInt
  · rw [if_pos ((lg_lt0 p q).mpr h1), if_neg (by omega)]
    rfl
  · rw [if_neg (fun h => h1 ((lg_lt0 p q).mp h))]
    by_cases h2 : r.toInt < p.toInt
    · rw [if_pos ((lg_gt0 p r).mpr h2), if_neg (by omega)]
      rfl
    · rw [if_neg (fun h => h2 ((lg_gt0 p r).mp h)), if_pos (by omega)]
      rfl
theorem i32_eq {p : Int32} {k : Int} (c : Int32) (hc : c.toInt = k) : p = c ↔ p.toInt = k := by
  rw [← hc]
  exact Int32.toInt_inj.symm
theorem isLaw_x (p : Int32) : f10_isLaw p = some (if p.toInt = 1 ∨ p.toInt = 2 then 1 else 0) := by
  unfold f10_isLaw
  have h1 := i32_eq (p := p) (k := 1) (Int32.ofInt 1) (by decide)
  have h2 := i32_eq (p := p) (k := 2) (Int32.ofInt 2) (by decide)
  by_cases a1 : p.toInt = 1
  · rw [if_pos (h1.mpr a1), if_pos (Or.inl a1)]; rfl
  · rw [if_neg (fun h => a1 (h1.mp h))]
    by_cases a2 : p.toInt = 2
    · rw [if_pos (h2.mpr a2), if_pos (Or.inr a2)]; rfl
    · rw [if_neg (fun h => a2 (h2.mp h)), if_neg (by omega)]; rfl
theorem isLaw_m (p : Int32) : f11_isLaw p = some (if p.toInt = 1 ∨ p.toInt = 2 then 1 else 0) := by
  unfold f11_isLaw
  rw [isIn_e]
  have e1 : (Int64.ofNat 1).toInt = 1 := by decide
  have e2 : (2 : Int64).toInt = 2 := by decide
  rw [e1, e2, Int32.toInt_toInt64]
  by_cases a : p.toInt = 1 ∨ p.toInt = 2
  · rw [if_pos (by omega), if_pos a]; rfl
  · rw [if_neg (by omega), if_neg a]; rfl
