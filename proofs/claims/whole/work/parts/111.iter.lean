/-! a loop that makes cells; lengths that are told -/
theorem j_iterA {V R : Type} {step : V → Option (V ⊕ R)} {P : Nat → V → Prop} {G : R → Prop} (hs : ∀ fu w q, step w = some q → (∀ w', q = .inl w' → P fu w') → (∀ o, q = .inr o → G o) → P (fu + 1) w) : ∀ (fu : Nat) (w : V) (o : R), iter step fu w = some o → G o → P fu w
  | 0, _, _, h, _ => by cases h
  | fu + 1, w, o, h, hG => by
    unfold iter at h
    cases hq : step w with
    | none => rw [hq] at h; cases h
    | some q =>
      rw [hq] at h
      cases q with
      | inl w1 => exact hs fu w _ hq (fun w' e => by cases e; exact j_iterA hs fu w1 o h hG) (fun o' e => by cases e)
      | inr r => exact hs fu w _ hq (fun w' e => by cases e) (fun o' e => by cases e; cases h; exact hG)
/-- a length that is told: 0 .. 100 -/
def szB (m : Int32) : Bool := decide (0 ≤ m.toInt) && decide (m.toInt ≤ 100)
theorem sz_ok {m : Int32} (h : szB m = true) : ¬ m < 0 ∧ m.toNatClampNeg ≤ 100 := by
  unfold szB at h
  rw [Bool.and_eq_true, decide_eq_true_eq, decide_eq_true_eq] at h
  refine ⟨fun h2 => ?_, ?_⟩
  · have := Int32.lt_iff_toInt_lt.mp h2
    simp at this
    omega
  · show m.toInt.toNat ≤ 100
    omega
