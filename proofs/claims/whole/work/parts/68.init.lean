/-! PURE: the start: a new object of each -/
theorem d_hp {X : Nat → Option HO} {c k a n : Nat} {fs : List Value} {v : Value} (h : X a = some (.inl (c, fs))) (hk : k < fs.length) : hput (X, n) [c] k a v = some (va_up X a (some (.inl (c, fs.set k v))), n) := by
  unfold hput hobj
  simp only [h]
  rw [if_pos (by simp [hk])]
  rfl
theorem d_hn (X : Nat → Option HO) (n : Nat) (o : HO) : hnew (X, n) o = (va_up X n (some o), n + 1) := rfl
theorem x_init2 {X : Nat → Option HO} {l p : Nat} {v : Int32} (hl : X l = some (.inl (2, [.null, .null, .int 0, .int 0]))) (hp : X p = some (.inl (6, [.int v]))) (h : p < l) :
    ∃ X' PA, f2_init (X, l + 1) l p = some (X', l + 3) ∧ X' l = some (.inl (2, [.ref (l + 1), .ref (l + 2), .int (Int32.ofInt 0), .int (Int32.ofInt 2)])) ∧ X' (l + 1) = some (.inr (.inr (false, 8, PA))) ∧ (∀ i, i < 8 → PA i = some p) ∧ X' (l + 2) = d_A 8 (fun _ => 0) ∧ ∀ q, q ≠ l → q ≠ l + 1 → q ≠ l + 2 → X' q = X q := by
  let PA : Nat → Nat → Option Nat := fun k i => if i < k then some p else none
  let X1 : Nat → Option HO := va_up X (l + 1) (some (.inr (.inr (false, 8, fun _ => none))))
  let X2 : Nat → Option HO := va_up X1 l (some (.inl (2, [.ref (l + 1), .null, .int 0, .int 0])))
  let Xk : Nat → Nat → Option HO := fun k => va_up X2 (l + 1) (some (.inr (.inr (false, 8, PA k))))
  let X4 : Nat → Option HO := va_up (Xk 8) (l + 2) (d_A 8 (fun _ => 0))
  let X5 : Nat → Option HO := va_up X4 l (some (.inl (2, [.ref (l + 1), .ref (l + 2), .int 0, .int 0])))
  let X6 : Nat → Option HO := va_up X5 l (some (.inl (2, [.ref (l + 1), .ref (l + 2), .int (Int32.ofInt 0), .int 0])))
  let X7 : Nat → Option HO := va_up X6 l (some (.inl (2, [.ref (l + 1), .ref (l + 2), .int (Int32.ofInt 0), .int (Int32.ofInt 2)])))
  have h1 : hput (hnew (X, l + 1) (.inr (.inr (false, 8, fun _ => none)))) [2] 0 l (.ref (l + 1)) = some (X2, l + 2) := d_hp ((va_up_ne _ _ (by omega)).trans hl) (Nat.le_of_ble_eq_true rfl)
  have kl : ∀ k, Xk k l = some (.inl (2, [.ref (l + 1), .null, .int 0, .int 0])) := fun k => (va_up_ne _ _ (by omega)).trans (va_up_self _ _ _)
  have k1 : ∀ k, Xk k (l + 1) = some (.inr (.inr (false, 8, PA k))) := fun k => va_up_self _ _ _
  have e0 : Xk 0 = X2 := by
    refine d_up_e ?_
    show X2 (l + 1) = some (.inr (.inr (false, 8, fun i => if i < 0 then some p else none)))
    rw [show (fun i => if i < 0 then some p else none : Nat → Option Nat) = (fun _ => none) from by funext i; rw [if_neg (by omega)]]
    exact (va_up_ne _ _ (by omega)).trans (va_up_self _ _ _)
  have lp : iter (f2_init_L15 l p) FU (Int32.ofInt 0, (X2, l + 2)) = some (Xk 8, l + 2) := by
    have := d_for (step := f2_init_L15 l p) (fun k => (Int32.ofNat k, ((Xk k, l + 2) : HM))) (Xk 8, l + 2) 8 0 (by omega) (by omega) (by
      intro k _ hk
      have f0 : hfld (Xk k, l + 2) [2] 0 l = some (.ref (l + 1)) := d_hfld (σ := (Xk k, l + 2)) (kl k) rfl
      have st : hrst (Xk k, l + 2) (l + 1) (Int32.ofNat k) (.ref p) = some (Xk (k + 1), l + 2) := by
        rw [d_rst1 (σ := (Xk k, l + 2)) (c := 6) (k1 k) hk (d_hcls (σ := (Xk k, l + 2)) ((va_up_ne _ _ (by omega)).trans ((va_up_ne _ _ (by omega)).trans ((va_up_ne _ _ (by omega)).trans hp)))) rfl]
        unfold hset
        show some (va_up (va_up X2 (l + 1) _) (l + 1) _, l + 2) = _
        rw [d_up_up]
        congr 9
        funext i
        show va_up (fun i => if i < k then some p else none) k (some p) i = if i < k + 1 then some p else none
        unfold va_up
        show (if i = k then some p else if i < k then some p else none) = if i < k + 1 then some p else none
        by_cases z : i = k
        · rw [if_pos z, if_pos (by omega)]
        · rw [if_neg z]
          by_cases z2 : i < k
          · rw [if_pos z2, if_pos (by omega)]
          · rw [if_neg z2, if_neg (by omega)]
      unfold f2_init_L15
      simp only [show (Int8.ofInt 8).toInt32 = Int32.ofNat 8 by decide, d_lef hk (by omega), if_false, f0, obd, orf, st, d_su]) (by
      unfold f2_init_L15
      simp only [show (Int8.ofInt 8).toInt32 = Int32.ofNat 8 by decide, d_let, if_true])
    rw [e0] at this
    exact this
  have h4 : hput (hnew (Xk 8, l + 2) (.inr (.inl (8, fun _ => 0)))) [2] 1 l (.ref (l + 2)) = some (X5, l + 3) := d_hp ((va_up_ne _ _ (by omega)).trans (kl 8)) (Nat.le_of_ble_eq_true rfl)
  have h5 : hput (X5, l + 3) [2] 2 l (.int (Int32.ofInt 0)) = some (X6, l + 3) := d_hp (va_up_self _ _ _) (Nat.le_of_ble_eq_true rfl)
  have h6 : hput (X6, l + 3) [2] 3 l (.int (Int32.ofInt 2)) = some (X7, l + 3) := d_hp (va_up_self _ _ _) (Nat.le_of_ble_eq_true rfl)
  have u : ∀ q, q ≠ l → X7 q = X4 q := fun q h0 => (va_up_ne _ _ h0).trans ((va_up_ne _ _ h0).trans (va_up_ne _ _ h0))
  refine ⟨X7, PA 8, ?_, va_up_self _ _ _, ?_, fun i hi => if_pos hi, (u _ (by omega)).trans (va_up_self _ _ _), fun q h0 h1 h2 => (u q h0).trans ((va_up_ne _ _ h2).trans ((va_up_ne _ _ h1).trans ((va_up_ne _ _ h0).trans (va_up_ne _ _ h1))))⟩
  · unfold f2_init
    simp only [h1, obd, lp, h4, h5, h6]
  · exact (u _ (by omega)).trans ((va_up_ne _ _ (by omega)).trans (k1 8))
def d_lg0 (X : Nat → Option HO) (a ad : Nat) : Prop := ∃ PA : Nat → Option Nat, X ad = some (.inl (2, [.ref (ad + 1), .ref (ad + 2), .int (Int32.ofInt 0), .int (Int32.ofInt 2)])) ∧ X (ad + 1) = some (.inr (.inr (false, 8, PA))) ∧ (∀ i, i < 8 → PA i = some (a + 1)) ∧ X (ad + 2) = d_A 8 (fun _ => 0)
theorem d_lg0_fr {X X' : Nat → Option HO} {a ad : Nat} (h : d_lg0 X a ad) (h0 : X' ad = X ad) (h1 : X' (ad + 1) = X (ad + 1)) (h2 : X' (ad + 2) = X (ad + 2)) : d_lg0 X' a ad := by
  obtain ⟨PA, b1, b2, b3, b4⟩ := h
  exact ⟨PA, h0.trans b1, h1.trans b2, b3, h2.trans b4⟩
theorem x_init (a : Nat) : ∃ X, f10_init (hnew (fun _ => none, a) (.inl (10, fs10))) a = some (X, a + 14) ∧ d_CX X a 0 ∧ X (a + 1) = some (.inl (6, [.int (Int32.ofInt 0)])) ∧ d_lg0 X a (a + 2) ∧ d_lg0 X a (a + 5) ∧ d_lg0 X a (a + 8) ∧ X (a + 11) = some (.inr (.inr (false, 8, fun _ => none))) ∧ X (a + 12) = some (.inr (.inr (true, 8, fun _ => none))) ∧ X (a + 13) = d_A 8 (fun _ => 0) := by
  let X0 : Nat → Option HO := va_up (fun _ => none) a (some (.inl (10, [.null, .null, .null, .null, .int 0, .null, .null, .null])))
  let X1 : Nat → Option HO := va_up X0 (a + 1) (some (.inl (6, [.int 0])))
  let X2 : Nat → Option HO := va_up X1 (a + 1) (some (.inl (6, [.int (Int32.ofInt 0)])))
  have e2 : f6_init (hnew (X0, a + 1) (.inl (6, [.int 0]))) (a + 1) (Int32.ofInt 0) = some (X2, a + 2) := by
    unfold f6_init
    have q : hput (X1, a + 2) sP 0 (a + 1) (.int (Int32.ofInt 0)) = some (X2, a + 2) := by
      unfold hput hobj
      simp only [show X1 (a + 1) = _ from va_up_self _ _ _]
      rfl
    rw [show hnew (X0, a + 1) (.inl (6, [.int 0])) = (X1, a + 2) from rfl, q]
    rfl
  have a2 : X2 a = some (.inl (10, [.null, .null, .null, .null, .int 0, .null, .null, .null])) := (va_up_ne _ _ (by omega)).trans ((va_up_ne _ _ (by omega)).trans (va_up_self _ _ _))
  let X3 : Nat → Option HO := va_up X2 a (some (.inl (10, [.ref (a + 1), .null, .null, .null, .int 0, .null, .null, .null])))
  have e3 : hput (X2, a + 2) [10] 0 a (.ref (a + 1)) = some (X3, a + 2) := d_hp a2 (Nat.le_of_ble_eq_true rfl)
  have p3 : X3 (a + 1) = some (.inl (6, [.int (Int32.ofInt 0)])) := (va_up_ne _ _ (by omega)).trans (va_up_self _ _ _)
  have a3 : X3 a = some (.inl (10, [.ref (a + 1), .null, .null, .null, .int 0, .null, .null, .null])) := va_up_self _ _ _
  let N2 : Nat → Option HO := va_up X3 (a + 2) (some (.inl (2, [.null, .null, .int 0, .int 0])))
  have aN2 : N2 a = some (.inl (10, [.ref (a + 1), .null, .null, .null, .int 0, .null, .null, .null])) := (va_up_ne _ _ (by omega)).trans a3
  have pN2 : N2 (a + 1) = some (.inl (6, [.int (Int32.ofInt 0)])) := (va_up_ne _ _ (by omega)).trans p3
  have fN2 : hfld (N2, a + 2 + 1) [10] 0 a = some (.ref (a + 1)) := d_hfld (σ := (N2, a + 2 + 1)) aN2 rfl
  obtain ⟨I2, PA2, eI2, b21, b22, b23, b24, uI2⟩ := x_init2 (X := N2) (l := a + 2) (p := a + 1) (va_up_self _ _ _) pN2 (by omega)
  have aI2 : I2 a = some (.inl (10, [.ref (a + 1), .null, .null, .null, .int 0, .null, .null, .null])) := (uI2 a (by omega) (by omega) (by omega)).trans aN2
  have pI2 : I2 (a + 1) = some (.inl (6, [.int (Int32.ofInt 0)])) := (uI2 _ (by omega) (by omega) (by omega)).trans pN2
  let XH2 : Nat → Option HO := va_up I2 a (some (.inl (10, [.ref (a + 1), .ref (a + 2), .null, .null, .int 0, .null, .null, .null])))
  have eH2 : hput (I2, a + 2 + 3) [10] 1 a (.ref (a + 2)) = some (XH2, a + 2 + 3) := d_hp aI2 (Nat.le_of_ble_eq_true rfl)
  have aH2 : XH2 a = some (.inl (10, [.ref (a + 1), .ref (a + 2), .null, .null, .int 0, .null, .null, .null])) := va_up_self _ _ _
  have pH2 : XH2 (a + 1) = some (.inl (6, [.int (Int32.ofInt 0)])) := (va_up_ne _ _ (by omega)).trans pI2
  have lH2_2 : d_lg0 XH2 a (a + 2) := ⟨PA2, (va_up_ne _ _ (by omega)).trans b21, (va_up_ne _ _ (by omega)).trans b22, b23, (va_up_ne _ _ (by omega)).trans b24⟩
  let N5 : Nat → Option HO := va_up XH2 (a + 5) (some (.inl (2, [.null, .null, .int 0, .int 0])))
  have aN5 : N5 a = some (.inl (10, [.ref (a + 1), .ref (a + 2), .null, .null, .int 0, .null, .null, .null])) := (va_up_ne _ _ (by omega)).trans aH2
  have pN5 : N5 (a + 1) = some (.inl (6, [.int (Int32.ofInt 0)])) := (va_up_ne _ _ (by omega)).trans pH2
  have fN5 : hfld (N5, a + 5 + 1) [10] 0 a = some (.ref (a + 1)) := d_hfld (σ := (N5, a + 5 + 1)) aN5 rfl
  obtain ⟨I5, PA5, eI5, b51, b52, b53, b54, uI5⟩ := x_init2 (X := N5) (l := a + 5) (p := a + 1) (va_up_self _ _ _) pN5 (by omega)
  have aI5 : I5 a = some (.inl (10, [.ref (a + 1), .ref (a + 2), .null, .null, .int 0, .null, .null, .null])) := (uI5 a (by omega) (by omega) (by omega)).trans aN5
  have pI5 : I5 (a + 1) = some (.inl (6, [.int (Int32.ofInt 0)])) := (uI5 _ (by omega) (by omega) (by omega)).trans pN5
  let XH5 : Nat → Option HO := va_up I5 a (some (.inl (10, [.ref (a + 1), .ref (a + 2), .ref (a + 5), .null, .int 0, .null, .null, .null])))
  have eH5 : hput (I5, a + 5 + 3) [10] 2 a (.ref (a + 5)) = some (XH5, a + 5 + 3) := d_hp aI5 (Nat.le_of_ble_eq_true rfl)
  have aH5 : XH5 a = some (.inl (10, [.ref (a + 1), .ref (a + 2), .ref (a + 5), .null, .int 0, .null, .null, .null])) := va_up_self _ _ _
  have pH5 : XH5 (a + 1) = some (.inl (6, [.int (Int32.ofInt 0)])) := (va_up_ne _ _ (by omega)).trans pI5
  have lH5_5 : d_lg0 XH5 a (a + 5) := ⟨PA5, (va_up_ne _ _ (by omega)).trans b51, (va_up_ne _ _ (by omega)).trans b52, b53, (va_up_ne _ _ (by omega)).trans b54⟩
  have lH5_2 : d_lg0 XH5 a (a + 2) := d_lg0_fr lH2_2 ((va_up_ne _ _ (by omega)).trans ((uI5 _ (by omega) (by omega) (by omega)).trans (va_up_ne _ _ (by omega)))) ((va_up_ne _ _ (by omega)).trans ((uI5 _ (by omega) (by omega) (by omega)).trans (va_up_ne _ _ (by omega)))) ((va_up_ne _ _ (by omega)).trans ((uI5 _ (by omega) (by omega) (by omega)).trans (va_up_ne _ _ (by omega))))
  let N8 : Nat → Option HO := va_up XH5 (a + 8) (some (.inl (2, [.null, .null, .int 0, .int 0])))
  have aN8 : N8 a = some (.inl (10, [.ref (a + 1), .ref (a + 2), .ref (a + 5), .null, .int 0, .null, .null, .null])) := (va_up_ne _ _ (by omega)).trans aH5
  have pN8 : N8 (a + 1) = some (.inl (6, [.int (Int32.ofInt 0)])) := (va_up_ne _ _ (by omega)).trans pH5
  have fN8 : hfld (N8, a + 8 + 1) [10] 0 a = some (.ref (a + 1)) := d_hfld (σ := (N8, a + 8 + 1)) aN8 rfl
  obtain ⟨I8, PA8, eI8, b81, b82, b83, b84, uI8⟩ := x_init2 (X := N8) (l := a + 8) (p := a + 1) (va_up_self _ _ _) pN8 (by omega)
  have aI8 : I8 a = some (.inl (10, [.ref (a + 1), .ref (a + 2), .ref (a + 5), .null, .int 0, .null, .null, .null])) := (uI8 a (by omega) (by omega) (by omega)).trans aN8
  have pI8 : I8 (a + 1) = some (.inl (6, [.int (Int32.ofInt 0)])) := (uI8 _ (by omega) (by omega) (by omega)).trans pN8
  let XH8 : Nat → Option HO := va_up I8 a (some (.inl (10, [.ref (a + 1), .ref (a + 2), .ref (a + 5), .ref (a + 8), .int 0, .null, .null, .null])))
  have eH8 : hput (I8, a + 8 + 3) [10] 3 a (.ref (a + 8)) = some (XH8, a + 8 + 3) := d_hp aI8 (Nat.le_of_ble_eq_true rfl)
  have aH8 : XH8 a = some (.inl (10, [.ref (a + 1), .ref (a + 2), .ref (a + 5), .ref (a + 8), .int 0, .null, .null, .null])) := va_up_self _ _ _
  have pH8 : XH8 (a + 1) = some (.inl (6, [.int (Int32.ofInt 0)])) := (va_up_ne _ _ (by omega)).trans pI8
  have lH8_8 : d_lg0 XH8 a (a + 8) := ⟨PA8, (va_up_ne _ _ (by omega)).trans b81, (va_up_ne _ _ (by omega)).trans b82, b83, (va_up_ne _ _ (by omega)).trans b84⟩
  have lH8_2 : d_lg0 XH8 a (a + 2) := d_lg0_fr lH5_2 ((va_up_ne _ _ (by omega)).trans ((uI8 _ (by omega) (by omega) (by omega)).trans (va_up_ne _ _ (by omega)))) ((va_up_ne _ _ (by omega)).trans ((uI8 _ (by omega) (by omega) (by omega)).trans (va_up_ne _ _ (by omega)))) ((va_up_ne _ _ (by omega)).trans ((uI8 _ (by omega) (by omega) (by omega)).trans (va_up_ne _ _ (by omega))))
  have lH8_5 : d_lg0 XH8 a (a + 5) := d_lg0_fr lH5_5 ((va_up_ne _ _ (by omega)).trans ((uI8 _ (by omega) (by omega) (by omega)).trans (va_up_ne _ _ (by omega)))) ((va_up_ne _ _ (by omega)).trans ((uI8 _ (by omega) (by omega) (by omega)).trans (va_up_ne _ _ (by omega)))) ((va_up_ne _ _ (by omega)).trans ((uI8 _ (by omega) (by omega) (by omega)).trans (va_up_ne _ _ (by omega))))
  let XJ : Nat → Option HO := va_up XH8 a (some (.inl (10, [.ref (a + 1), .ref (a + 2), .ref (a + 5), .ref (a + 8), .int (Int32.ofInt 0), .null, .null, .null])))
  have eJ : hput (XH8, a + 11) [10] 4 a (.int (Int32.ofInt 0)) = some (XJ, a + 11) := d_hp aH8 (Nat.le_of_ble_eq_true rfl)
  have aJ : XJ a = some (.inl (10, [.ref (a + 1), .ref (a + 2), .ref (a + 5), .ref (a + 8), .int (Int32.ofInt 0), .null, .null, .null])) := va_up_self _ _ _
  have pJ : XJ (a + 1) = some (.inl (6, [.int (Int32.ofInt 0)])) := (va_up_ne _ _ (by omega)).trans pH8
  have lJ_2 : d_lg0 XJ a (a + 2) := d_lg0_fr lH8_2 (va_up_ne _ _ (by omega)) (va_up_ne _ _ (by omega)) (va_up_ne _ _ (by omega))
  have lJ_5 : d_lg0 XJ a (a + 5) := d_lg0_fr lH8_5 (va_up_ne _ _ (by omega)) (va_up_ne _ _ (by omega)) (va_up_ne _ _ (by omega))
  have lJ_8 : d_lg0 XJ a (a + 8) := d_lg0_fr lH8_8 (va_up_ne _ _ (by omega)) (va_up_ne _ _ (by omega)) (va_up_ne _ _ (by omega))
  let XK11 : Nat → Option HO := va_up (va_up XJ (a + 11) (some (.inr (.inr (false, 8, fun _ => none))))) a (some (.inl (10, [.ref (a + 1), .ref (a + 2), .ref (a + 5), .ref (a + 8), .int (Int32.ofInt 0), .ref (a + 11), .null, .null])))
  have eK11 : hput (hnew (XJ, a + 11) (.inr (.inr (false, 8, fun _ => none)))) [10] 5 a (.ref (a + 11)) = some (XK11, a + 11 + 1) := d_hp ((va_up_ne _ _ (by omega)).trans aJ) (Nat.le_of_ble_eq_true rfl)
  have aK11 : XK11 a = some (.inl (10, [.ref (a + 1), .ref (a + 2), .ref (a + 5), .ref (a + 8), .int (Int32.ofInt 0), .ref (a + 11), .null, .null])) := va_up_self _ _ _
  have pK11 : XK11 (a + 1) = some (.inl (6, [.int (Int32.ofInt 0)])) := (va_up_ne _ _ (by omega)).trans ((va_up_ne _ _ (by omega)).trans pJ)
  have lK11_2 : d_lg0 XK11 a (a + 2) := d_lg0_fr lJ_2 ((va_up_ne _ _ (by omega)).trans (va_up_ne _ _ (by omega))) ((va_up_ne _ _ (by omega)).trans (va_up_ne _ _ (by omega))) ((va_up_ne _ _ (by omega)).trans (va_up_ne _ _ (by omega)))
  have lK11_5 : d_lg0 XK11 a (a + 5) := d_lg0_fr lJ_5 ((va_up_ne _ _ (by omega)).trans (va_up_ne _ _ (by omega))) ((va_up_ne _ _ (by omega)).trans (va_up_ne _ _ (by omega))) ((va_up_ne _ _ (by omega)).trans (va_up_ne _ _ (by omega)))
  have lK11_8 : d_lg0 XK11 a (a + 8) := d_lg0_fr lJ_8 ((va_up_ne _ _ (by omega)).trans (va_up_ne _ _ (by omega))) ((va_up_ne _ _ (by omega)).trans (va_up_ne _ _ (by omega))) ((va_up_ne _ _ (by omega)).trans (va_up_ne _ _ (by omega)))
  have mK11_11 : XK11 (a + 11) = some (.inr (.inr (false, 8, fun _ => none))) := (va_up_ne _ _ (by omega)).trans (va_up_self _ _ _)
  let XK12 : Nat → Option HO := va_up (va_up XK11 (a + 12) (some (.inr (.inr (true, 8, fun _ => none))))) a (some (.inl (10, [.ref (a + 1), .ref (a + 2), .ref (a + 5), .ref (a + 8), .int (Int32.ofInt 0), .ref (a + 11), .ref (a + 12), .null])))
  have eK12 : hput (hnew (XK11, a + 12) (.inr (.inr (true, 8, fun _ => none)))) [10] 6 a (.ref (a + 12)) = some (XK12, a + 12 + 1) := d_hp ((va_up_ne _ _ (by omega)).trans aK11) (Nat.le_of_ble_eq_true rfl)
  have aK12 : XK12 a = some (.inl (10, [.ref (a + 1), .ref (a + 2), .ref (a + 5), .ref (a + 8), .int (Int32.ofInt 0), .ref (a + 11), .ref (a + 12), .null])) := va_up_self _ _ _
  have pK12 : XK12 (a + 1) = some (.inl (6, [.int (Int32.ofInt 0)])) := (va_up_ne _ _ (by omega)).trans ((va_up_ne _ _ (by omega)).trans pK11)
  have lK12_2 : d_lg0 XK12 a (a + 2) := d_lg0_fr lK11_2 ((va_up_ne _ _ (by omega)).trans (va_up_ne _ _ (by omega))) ((va_up_ne _ _ (by omega)).trans (va_up_ne _ _ (by omega))) ((va_up_ne _ _ (by omega)).trans (va_up_ne _ _ (by omega)))
  have lK12_5 : d_lg0 XK12 a (a + 5) := d_lg0_fr lK11_5 ((va_up_ne _ _ (by omega)).trans (va_up_ne _ _ (by omega))) ((va_up_ne _ _ (by omega)).trans (va_up_ne _ _ (by omega))) ((va_up_ne _ _ (by omega)).trans (va_up_ne _ _ (by omega)))
  have lK12_8 : d_lg0 XK12 a (a + 8) := d_lg0_fr lK11_8 ((va_up_ne _ _ (by omega)).trans (va_up_ne _ _ (by omega))) ((va_up_ne _ _ (by omega)).trans (va_up_ne _ _ (by omega))) ((va_up_ne _ _ (by omega)).trans (va_up_ne _ _ (by omega)))
  have mK12_12 : XK12 (a + 12) = some (.inr (.inr (true, 8, fun _ => none))) := (va_up_ne _ _ (by omega)).trans (va_up_self _ _ _)
  have mK12_11 : XK12 (a + 11) = some (.inr (.inr (false, 8, fun _ => none))) := (va_up_ne _ _ (by omega)).trans ((va_up_ne _ _ (by omega)).trans mK11_11)
  let XK13 : Nat → Option HO := va_up (va_up XK12 (a + 13) (some (.inr (.inl (8, fun _ => 0))))) a (some (.inl (10, [.ref (a + 1), .ref (a + 2), .ref (a + 5), .ref (a + 8), .int (Int32.ofInt 0), .ref (a + 11), .ref (a + 12), .ref (a + 13)])))
  have eK13 : hput (hnew (XK12, a + 13) (.inr (.inl (8, fun _ => 0)))) [10] 7 a (.ref (a + 13)) = some (XK13, a + 13 + 1) := d_hp ((va_up_ne _ _ (by omega)).trans aK12) (Nat.le_of_ble_eq_true rfl)
  have aK13 : XK13 a = some (.inl (10, [.ref (a + 1), .ref (a + 2), .ref (a + 5), .ref (a + 8), .int (Int32.ofInt 0), .ref (a + 11), .ref (a + 12), .ref (a + 13)])) := va_up_self _ _ _
  have pK13 : XK13 (a + 1) = some (.inl (6, [.int (Int32.ofInt 0)])) := (va_up_ne _ _ (by omega)).trans ((va_up_ne _ _ (by omega)).trans pK12)
  have lK13_2 : d_lg0 XK13 a (a + 2) := d_lg0_fr lK12_2 ((va_up_ne _ _ (by omega)).trans (va_up_ne _ _ (by omega))) ((va_up_ne _ _ (by omega)).trans (va_up_ne _ _ (by omega))) ((va_up_ne _ _ (by omega)).trans (va_up_ne _ _ (by omega)))
  have lK13_5 : d_lg0 XK13 a (a + 5) := d_lg0_fr lK12_5 ((va_up_ne _ _ (by omega)).trans (va_up_ne _ _ (by omega))) ((va_up_ne _ _ (by omega)).trans (va_up_ne _ _ (by omega))) ((va_up_ne _ _ (by omega)).trans (va_up_ne _ _ (by omega)))
  have lK13_8 : d_lg0 XK13 a (a + 8) := d_lg0_fr lK12_8 ((va_up_ne _ _ (by omega)).trans (va_up_ne _ _ (by omega))) ((va_up_ne _ _ (by omega)).trans (va_up_ne _ _ (by omega))) ((va_up_ne _ _ (by omega)).trans (va_up_ne _ _ (by omega)))
  have mK13_13 : XK13 (a + 13) = some (.inr (.inl (8, fun _ => 0))) := (va_up_ne _ _ (by omega)).trans (va_up_self _ _ _)
  have mK13_11 : XK13 (a + 11) = some (.inr (.inr (false, 8, fun _ => none))) := (va_up_ne _ _ (by omega)).trans ((va_up_ne _ _ (by omega)).trans mK12_11)
  have mK13_12 : XK13 (a + 12) = some (.inr (.inr (true, 8, fun _ => none))) := (va_up_ne _ _ (by omega)).trans ((va_up_ne _ _ (by omega)).trans mK12_12)
  refine ⟨XK13, ?_, aK13, pK13, lK13_2, lK13_5, lK13_8, mK13_11, mK13_12, mK13_13⟩
  unfold f10_init
  rw [show hnew (fun _ => none, a) (.inl (10, fs10)) = ((X0, a + 1) : HM) from rfl]
  simp only [e2, obd, e3, orf,
    show hnew (X3, a + 2) (.inl (2, [.null, .null, .int 0, .int 0])) = ((N2, a + 2 + 1) : HM) from rfl, fN2, eI2, eH2,
    show hnew (XH2, a + 2 + 3) (.inl (2, [.null, .null, .int 0, .int 0])) = ((N5, a + 5 + 1) : HM) from rfl, show (a + 2 + 3 : Nat) = a + 5 from rfl, fN5, eI5, eH5,
    show hnew (XH5, a + 5 + 3) (.inl (2, [.null, .null, .int 0, .int 0])) = ((N8, a + 8 + 1) : HM) from rfl, show (a + 5 + 3 : Nat) = a + 8 from rfl, fN8, eI8, eH8,
    show (a + 8 + 3 : Nat) = a + 11 from rfl, eJ, eK11, show (a + 11 + 1 : Nat) = a + 12 from rfl, eK12, show (a + 12 + 1 : Nat) = a + 13 from rfl, eK13]
theorem m_init {X : Nat → Option HO} (n : Nat) : ∃ Y, f11_init (hnew (X, n) (.inl (11, fs11))) n = some (Y, n + 12) ∧ d_MO Y n 0 0 0 0 0 0 0 0 ∧ (∀ q, q < n → Y q = X q) ∧ Y (n + 1) = d_A 26 (upd (fun _ => 0) 1 (Int32.ofInt 2)) ∧ Y (n + 2) = d_A 26 (fun _ => 0) ∧ Y (n + 3) = d_A 26 (fun _ => 0) ∧ Y (n + 4) = d_A 26 (fun _ => 0) ∧ Y (n + 5) = d_A 8 (fun _ => 0) ∧ Y (n + 6) = d_A 8 (fun _ => 0) ∧ Y (n + 7) = d_A 8 (fun _ => 0) ∧ Y (n + 8) = d_A 800 (fun _ => 0) ∧ Y (n + 9) = d_A 8 (fun _ => 0) ∧ Y (n + 10) = d_A 8 (fun _ => 0) ∧ Y (n + 11) = d_A 2 (fun _ => 0) := by
  let Y0 : Nat → Option HO := va_up X n (some (.inl (11, [.null, .null, .null, .null, .null, .null, .null, .null, .null, .null, .int 0, .int 0, .int 0, .int 0, .int 0, .null, .int 0, .int 0, .int 0])))
  have a0 : Y0 n = some (.inl (11, [.null, .null, .null, .null, .null, .null, .null, .null, .null, .null, .int 0, .int 0, .int 0, .int 0, .int 0, .null, .int 0, .int 0, .int 0])) := va_up_self _ _ _
  let Y1 : Nat → Option HO := va_up (va_up Y0 (n + 1) (some (.inr (.inl (26, fun _ => 0))))) n (some (.inl (11, [.ref (n + 1), .null, .null, .null, .null, .null, .null, .null, .null, .null, .int 0, .int 0, .int 0, .int 0, .int 0, .null, .int 0, .int 0, .int 0])))
  have e1 : hput (hnew (Y0, n + 1) (.inr (.inl (26, fun _ => 0)))) [11] 0 n (.ref (n + 1)) = some (Y1, n + 2) := d_hp ((va_up_ne _ _ (by omega)).trans a0) (Nat.le_of_ble_eq_true rfl)
  have a1 : Y1 n = some (.inl (11, [.ref (n + 1), .null, .null, .null, .null, .null, .null, .null, .null, .null, .int 0, .int 0, .int 0, .int 0, .int 0, .null, .int 0, .int 0, .int 0])) := va_up_self _ _ _
  have u1 : ∀ q, q ≠ n → q ≠ n + 1 → Y1 q = Y0 q := fun q h0 h1 => (va_up_ne _ _ h0).trans (va_up_ne _ _ h1)
  have v1 : Y1 (n + 1) = d_A 26 (fun _ => 0) := (va_up_ne _ _ (by omega)).trans (va_up_self _ _ _)
  let Y2 : Nat → Option HO := va_up (va_up Y1 (n + 2) (some (.inr (.inl (26, fun _ => 0))))) n (some (.inl (11, [.ref (n + 1), .ref (n + 2), .null, .null, .null, .null, .null, .null, .null, .null, .int 0, .int 0, .int 0, .int 0, .int 0, .null, .int 0, .int 0, .int 0])))
  have e2 : hput (hnew (Y1, n + 2) (.inr (.inl (26, fun _ => 0)))) [11] 1 n (.ref (n + 2)) = some (Y2, n + 3) := d_hp ((va_up_ne _ _ (by omega)).trans a1) (Nat.le_of_ble_eq_true rfl)
  have a2 : Y2 n = some (.inl (11, [.ref (n + 1), .ref (n + 2), .null, .null, .null, .null, .null, .null, .null, .null, .int 0, .int 0, .int 0, .int 0, .int 0, .null, .int 0, .int 0, .int 0])) := va_up_self _ _ _
  have u2 : ∀ q, q ≠ n → q ≠ n + 2 → Y2 q = Y1 q := fun q h0 h1 => (va_up_ne _ _ h0).trans (va_up_ne _ _ h1)
  have v2 : Y2 (n + 2) = d_A 26 (fun _ => 0) := (va_up_ne _ _ (by omega)).trans (va_up_self _ _ _)
  let Y3 : Nat → Option HO := va_up (va_up Y2 (n + 3) (some (.inr (.inl (26, fun _ => 0))))) n (some (.inl (11, [.ref (n + 1), .ref (n + 2), .ref (n + 3), .null, .null, .null, .null, .null, .null, .null, .int 0, .int 0, .int 0, .int 0, .int 0, .null, .int 0, .int 0, .int 0])))
  have e3 : hput (hnew (Y2, n + 3) (.inr (.inl (26, fun _ => 0)))) [11] 2 n (.ref (n + 3)) = some (Y3, n + 4) := d_hp ((va_up_ne _ _ (by omega)).trans a2) (Nat.le_of_ble_eq_true rfl)
  have a3 : Y3 n = some (.inl (11, [.ref (n + 1), .ref (n + 2), .ref (n + 3), .null, .null, .null, .null, .null, .null, .null, .int 0, .int 0, .int 0, .int 0, .int 0, .null, .int 0, .int 0, .int 0])) := va_up_self _ _ _
  have u3 : ∀ q, q ≠ n → q ≠ n + 3 → Y3 q = Y2 q := fun q h0 h1 => (va_up_ne _ _ h0).trans (va_up_ne _ _ h1)
  have v3 : Y3 (n + 3) = d_A 26 (fun _ => 0) := (va_up_ne _ _ (by omega)).trans (va_up_self _ _ _)
  let Y4 : Nat → Option HO := va_up (va_up Y3 (n + 4) (some (.inr (.inl (26, fun _ => 0))))) n (some (.inl (11, [.ref (n + 1), .ref (n + 2), .ref (n + 3), .ref (n + 4), .null, .null, .null, .null, .null, .null, .int 0, .int 0, .int 0, .int 0, .int 0, .null, .int 0, .int 0, .int 0])))
  have e4 : hput (hnew (Y3, n + 4) (.inr (.inl (26, fun _ => 0)))) [11] 3 n (.ref (n + 4)) = some (Y4, n + 5) := d_hp ((va_up_ne _ _ (by omega)).trans a3) (Nat.le_of_ble_eq_true rfl)
  have a4 : Y4 n = some (.inl (11, [.ref (n + 1), .ref (n + 2), .ref (n + 3), .ref (n + 4), .null, .null, .null, .null, .null, .null, .int 0, .int 0, .int 0, .int 0, .int 0, .null, .int 0, .int 0, .int 0])) := va_up_self _ _ _
  have u4 : ∀ q, q ≠ n → q ≠ n + 4 → Y4 q = Y3 q := fun q h0 h1 => (va_up_ne _ _ h0).trans (va_up_ne _ _ h1)
  have v4 : Y4 (n + 4) = d_A 26 (fun _ => 0) := (va_up_ne _ _ (by omega)).trans (va_up_self _ _ _)
  let Y5 : Nat → Option HO := va_up (va_up Y4 (n + 5) (some (.inr (.inl (8, fun _ => 0))))) n (some (.inl (11, [.ref (n + 1), .ref (n + 2), .ref (n + 3), .ref (n + 4), .ref (n + 5), .null, .null, .null, .null, .null, .int 0, .int 0, .int 0, .int 0, .int 0, .null, .int 0, .int 0, .int 0])))
  have e5 : hput (hnew (Y4, n + 5) (.inr (.inl (8, fun _ => 0)))) [11] 4 n (.ref (n + 5)) = some (Y5, n + 6) := d_hp ((va_up_ne _ _ (by omega)).trans a4) (Nat.le_of_ble_eq_true rfl)
  have a5 : Y5 n = some (.inl (11, [.ref (n + 1), .ref (n + 2), .ref (n + 3), .ref (n + 4), .ref (n + 5), .null, .null, .null, .null, .null, .int 0, .int 0, .int 0, .int 0, .int 0, .null, .int 0, .int 0, .int 0])) := va_up_self _ _ _
  have u5 : ∀ q, q ≠ n → q ≠ n + 5 → Y5 q = Y4 q := fun q h0 h1 => (va_up_ne _ _ h0).trans (va_up_ne _ _ h1)
  have v5 : Y5 (n + 5) = d_A 8 (fun _ => 0) := (va_up_ne _ _ (by omega)).trans (va_up_self _ _ _)
  let Y6 : Nat → Option HO := va_up (va_up Y5 (n + 6) (some (.inr (.inl (8, fun _ => 0))))) n (some (.inl (11, [.ref (n + 1), .ref (n + 2), .ref (n + 3), .ref (n + 4), .ref (n + 5), .ref (n + 6), .null, .null, .null, .null, .int 0, .int 0, .int 0, .int 0, .int 0, .null, .int 0, .int 0, .int 0])))
  have e6 : hput (hnew (Y5, n + 6) (.inr (.inl (8, fun _ => 0)))) [11] 5 n (.ref (n + 6)) = some (Y6, n + 7) := d_hp ((va_up_ne _ _ (by omega)).trans a5) (Nat.le_of_ble_eq_true rfl)
  have a6 : Y6 n = some (.inl (11, [.ref (n + 1), .ref (n + 2), .ref (n + 3), .ref (n + 4), .ref (n + 5), .ref (n + 6), .null, .null, .null, .null, .int 0, .int 0, .int 0, .int 0, .int 0, .null, .int 0, .int 0, .int 0])) := va_up_self _ _ _
  have u6 : ∀ q, q ≠ n → q ≠ n + 6 → Y6 q = Y5 q := fun q h0 h1 => (va_up_ne _ _ h0).trans (va_up_ne _ _ h1)
  have v6 : Y6 (n + 6) = d_A 8 (fun _ => 0) := (va_up_ne _ _ (by omega)).trans (va_up_self _ _ _)
  let Y7 : Nat → Option HO := va_up (va_up Y6 (n + 7) (some (.inr (.inl (8, fun _ => 0))))) n (some (.inl (11, [.ref (n + 1), .ref (n + 2), .ref (n + 3), .ref (n + 4), .ref (n + 5), .ref (n + 6), .ref (n + 7), .null, .null, .null, .int 0, .int 0, .int 0, .int 0, .int 0, .null, .int 0, .int 0, .int 0])))
  have e7 : hput (hnew (Y6, n + 7) (.inr (.inl (8, fun _ => 0)))) [11] 6 n (.ref (n + 7)) = some (Y7, n + 8) := d_hp ((va_up_ne _ _ (by omega)).trans a6) (Nat.le_of_ble_eq_true rfl)
  have a7 : Y7 n = some (.inl (11, [.ref (n + 1), .ref (n + 2), .ref (n + 3), .ref (n + 4), .ref (n + 5), .ref (n + 6), .ref (n + 7), .null, .null, .null, .int 0, .int 0, .int 0, .int 0, .int 0, .null, .int 0, .int 0, .int 0])) := va_up_self _ _ _
  have u7 : ∀ q, q ≠ n → q ≠ n + 7 → Y7 q = Y6 q := fun q h0 h1 => (va_up_ne _ _ h0).trans (va_up_ne _ _ h1)
  have v7 : Y7 (n + 7) = d_A 8 (fun _ => 0) := (va_up_ne _ _ (by omega)).trans (va_up_self _ _ _)
  let Y8 : Nat → Option HO := va_up (va_up Y7 (n + 8) (some (.inr (.inl (800, fun _ => 0))))) n (some (.inl (11, [.ref (n + 1), .ref (n + 2), .ref (n + 3), .ref (n + 4), .ref (n + 5), .ref (n + 6), .ref (n + 7), .ref (n + 8), .null, .null, .int 0, .int 0, .int 0, .int 0, .int 0, .null, .int 0, .int 0, .int 0])))
  have e8 : hput (hnew (Y7, n + 8) (.inr (.inl (800, fun _ => 0)))) [11] 7 n (.ref (n + 8)) = some (Y8, n + 9) := d_hp ((va_up_ne _ _ (by omega)).trans a7) (Nat.le_of_ble_eq_true rfl)
  have a8 : Y8 n = some (.inl (11, [.ref (n + 1), .ref (n + 2), .ref (n + 3), .ref (n + 4), .ref (n + 5), .ref (n + 6), .ref (n + 7), .ref (n + 8), .null, .null, .int 0, .int 0, .int 0, .int 0, .int 0, .null, .int 0, .int 0, .int 0])) := va_up_self _ _ _
  have u8 : ∀ q, q ≠ n → q ≠ n + 8 → Y8 q = Y7 q := fun q h0 h1 => (va_up_ne _ _ h0).trans (va_up_ne _ _ h1)
  have v8 : Y8 (n + 8) = d_A 800 (fun _ => 0) := (va_up_ne _ _ (by omega)).trans (va_up_self _ _ _)
  let Y9 : Nat → Option HO := va_up (va_up Y8 (n + 9) (some (.inr (.inl (8, fun _ => 0))))) n (some (.inl (11, [.ref (n + 1), .ref (n + 2), .ref (n + 3), .ref (n + 4), .ref (n + 5), .ref (n + 6), .ref (n + 7), .ref (n + 8), .ref (n + 9), .null, .int 0, .int 0, .int 0, .int 0, .int 0, .null, .int 0, .int 0, .int 0])))
  have e9 : hput (hnew (Y8, n + 9) (.inr (.inl (8, fun _ => 0)))) [11] 8 n (.ref (n + 9)) = some (Y9, n + 10) := d_hp ((va_up_ne _ _ (by omega)).trans a8) (Nat.le_of_ble_eq_true rfl)
  have a9 : Y9 n = some (.inl (11, [.ref (n + 1), .ref (n + 2), .ref (n + 3), .ref (n + 4), .ref (n + 5), .ref (n + 6), .ref (n + 7), .ref (n + 8), .ref (n + 9), .null, .int 0, .int 0, .int 0, .int 0, .int 0, .null, .int 0, .int 0, .int 0])) := va_up_self _ _ _
  have u9 : ∀ q, q ≠ n → q ≠ n + 9 → Y9 q = Y8 q := fun q h0 h1 => (va_up_ne _ _ h0).trans (va_up_ne _ _ h1)
  have v9 : Y9 (n + 9) = d_A 8 (fun _ => 0) := (va_up_ne _ _ (by omega)).trans (va_up_self _ _ _)
  let Y10 : Nat → Option HO := va_up (va_up Y9 (n + 10) (some (.inr (.inl (8, fun _ => 0))))) n (some (.inl (11, [.ref (n + 1), .ref (n + 2), .ref (n + 3), .ref (n + 4), .ref (n + 5), .ref (n + 6), .ref (n + 7), .ref (n + 8), .ref (n + 9), .ref (n + 10), .int 0, .int 0, .int 0, .int 0, .int 0, .null, .int 0, .int 0, .int 0])))
  have e10 : hput (hnew (Y9, n + 10) (.inr (.inl (8, fun _ => 0)))) [11] 9 n (.ref (n + 10)) = some (Y10, n + 11) := d_hp ((va_up_ne _ _ (by omega)).trans a9) (Nat.le_of_ble_eq_true rfl)
  have a10 : Y10 n = some (.inl (11, [.ref (n + 1), .ref (n + 2), .ref (n + 3), .ref (n + 4), .ref (n + 5), .ref (n + 6), .ref (n + 7), .ref (n + 8), .ref (n + 9), .ref (n + 10), .int 0, .int 0, .int 0, .int 0, .int 0, .null, .int 0, .int 0, .int 0])) := va_up_self _ _ _
  have u10 : ∀ q, q ≠ n → q ≠ n + 10 → Y10 q = Y9 q := fun q h0 h1 => (va_up_ne _ _ h0).trans (va_up_ne _ _ h1)
  have v10 : Y10 (n + 10) = d_A 8 (fun _ => 0) := (va_up_ne _ _ (by omega)).trans (va_up_self _ _ _)
  let Y11 : Nat → Option HO := va_up (va_up Y10 (n + 11) (some (.inr (.inl (2, fun _ => 0))))) n (some (.inl (11, [.ref (n + 1), .ref (n + 2), .ref (n + 3), .ref (n + 4), .ref (n + 5), .ref (n + 6), .ref (n + 7), .ref (n + 8), .ref (n + 9), .ref (n + 10), .int 0, .int 0, .int 0, .int 0, .int 0, .ref (n + 11), .int 0, .int 0, .int 0])))
  have e11 : hput (hnew (Y10, n + 11) (.inr (.inl (2, fun _ => 0)))) [11] 15 n (.ref (n + 11)) = some (Y11, n + 12) := d_hp ((va_up_ne _ _ (by omega)).trans a10) (Nat.le_of_ble_eq_true rfl)
  have a11 : Y11 n = some (.inl (11, [.ref (n + 1), .ref (n + 2), .ref (n + 3), .ref (n + 4), .ref (n + 5), .ref (n + 6), .ref (n + 7), .ref (n + 8), .ref (n + 9), .ref (n + 10), .int 0, .int 0, .int 0, .int 0, .int 0, .ref (n + 11), .int 0, .int 0, .int 0])) := va_up_self _ _ _
  have u11 : ∀ q, q ≠ n → q ≠ n + 11 → Y11 q = Y10 q := fun q h0 h1 => (va_up_ne _ _ h0).trans (va_up_ne _ _ h1)
  have v11 : Y11 (n + 11) = d_A 2 (fun _ => 0) := (va_up_ne _ _ (by omega)).trans (va_up_self _ _ _)
  have z1 : Y11 (n + 1) = d_A 26 (fun _ => 0) := (u11 _ (by omega) (by omega)).trans ((u10 _ (by omega) (by omega)).trans ((u9 _ (by omega) (by omega)).trans ((u8 _ (by omega) (by omega)).trans ((u7 _ (by omega) (by omega)).trans ((u6 _ (by omega) (by omega)).trans ((u5 _ (by omega) (by omega)).trans ((u4 _ (by omega) (by omega)).trans ((u3 _ (by omega) (by omega)).trans ((u2 _ (by omega) (by omega)).trans (v1))))))))))
  let Y12 : Nat → Option HO := va_up Y11 (n + 1) (d_A 26 (upd (fun _ => 0) 1 (Int32.ofInt 2)))
  have e12 : hast (Y11, n + 12) (n + 1) (Int32.ofInt 1) (Int32.ofInt 2) = some (Y12, n + 12) := d_ast (σ := (Y11, n + 12)) (i := 1) z1 (by omega) (by omega)
  have f11 : hfld (Y11, n + 12) [11] 0 n = some (.ref (n + 1)) := d_hfld (σ := (Y11, n + 12)) a11 rfl
  have w12 : ∀ q, q ≠ n + 1 → Y12 q = Y11 q := fun q h => va_up_ne _ _ h
  refine ⟨Y12, ?_, (w12 n (by omega)).trans a11, fun q hq => (w12 q (by omega)).trans ((u11 q (by omega) (by omega)).trans ((u10 q (by omega) (by omega)).trans ((u9 q (by omega) (by omega)).trans ((u8 q (by omega) (by omega)).trans ((u7 q (by omega) (by omega)).trans ((u6 q (by omega) (by omega)).trans ((u5 q (by omega) (by omega)).trans ((u4 q (by omega) (by omega)).trans ((u3 q (by omega) (by omega)).trans ((u2 q (by omega) (by omega)).trans ((u1 q (by omega) (by omega)).trans (va_up_ne _ _ (by omega))))))))))))), va_up_self _ _ _, (w12 _ (by omega)).trans ((u11 _ (by omega) (by omega)).trans ((u10 _ (by omega) (by omega)).trans ((u9 _ (by omega) (by omega)).trans ((u8 _ (by omega) (by omega)).trans ((u7 _ (by omega) (by omega)).trans ((u6 _ (by omega) (by omega)).trans ((u5 _ (by omega) (by omega)).trans ((u4 _ (by omega) (by omega)).trans ((u3 _ (by omega) (by omega)).trans (v2)))))))))), (w12 _ (by omega)).trans ((u11 _ (by omega) (by omega)).trans ((u10 _ (by omega) (by omega)).trans ((u9 _ (by omega) (by omega)).trans ((u8 _ (by omega) (by omega)).trans ((u7 _ (by omega) (by omega)).trans ((u6 _ (by omega) (by omega)).trans ((u5 _ (by omega) (by omega)).trans ((u4 _ (by omega) (by omega)).trans (v3))))))))), (w12 _ (by omega)).trans ((u11 _ (by omega) (by omega)).trans ((u10 _ (by omega) (by omega)).trans ((u9 _ (by omega) (by omega)).trans ((u8 _ (by omega) (by omega)).trans ((u7 _ (by omega) (by omega)).trans ((u6 _ (by omega) (by omega)).trans ((u5 _ (by omega) (by omega)).trans (v4)))))))), (w12 _ (by omega)).trans ((u11 _ (by omega) (by omega)).trans ((u10 _ (by omega) (by omega)).trans ((u9 _ (by omega) (by omega)).trans ((u8 _ (by omega) (by omega)).trans ((u7 _ (by omega) (by omega)).trans ((u6 _ (by omega) (by omega)).trans (v5))))))), (w12 _ (by omega)).trans ((u11 _ (by omega) (by omega)).trans ((u10 _ (by omega) (by omega)).trans ((u9 _ (by omega) (by omega)).trans ((u8 _ (by omega) (by omega)).trans ((u7 _ (by omega) (by omega)).trans (v6)))))), (w12 _ (by omega)).trans ((u11 _ (by omega) (by omega)).trans ((u10 _ (by omega) (by omega)).trans ((u9 _ (by omega) (by omega)).trans ((u8 _ (by omega) (by omega)).trans (v7))))), (w12 _ (by omega)).trans ((u11 _ (by omega) (by omega)).trans ((u10 _ (by omega) (by omega)).trans ((u9 _ (by omega) (by omega)).trans (v8)))), (w12 _ (by omega)).trans ((u11 _ (by omega) (by omega)).trans ((u10 _ (by omega) (by omega)).trans (v9))), (w12 _ (by omega)).trans ((u11 _ (by omega) (by omega)).trans (v10)), (w12 _ (by omega)).trans (v11)⟩
  unfold f11_init
  rw [show hnew (X, n) (.inl (11, fs11)) = ((Y0, n + 1) : HM) from rfl]
  simp only [e1, e2, e3, e4, e5, e6, e7, e8, e9, e10, e11, obd, f11, orf, e12]
theorem d_lg0_LG {X : Nat → Option HO} {a nx ad : Nat} (h : d_lg0 X a ad) (hp : X (a + 1) = some (.inl (6, [.int (Int32.ofInt 0)]))) (had : a + 2 ≤ ad) : d_LG a nx X ad (fun _ => a + 1) (fun _ => 0) (fun _ => 0) 0 (Int32.ofInt 2) (fun _ => 0) := by
  obtain ⟨PA, b1, b2, b3, b4⟩ := h
  exact ⟨⟨⟨b1, PA, b2, b3⟩, fun i hi => ⟨⟨hp, show 0 < 8 by omega, show 0 < 10 by omega⟩, show a + 1 ≠ ad + 2 by omega⟩, by omega⟩, b4, fun i hi => Or.inl rfl⟩
theorem sD_init : S_init d_R := by
  intro a
  obtain ⟨X, x0, x1, x2, x3, x4, x5, x6, x7, x8⟩ := x_init a
  obtain ⟨Y, y0, y1, y2, y3, y4, y5, y6, y7, y8, y9, y10, y11, y12, y13⟩ := m_init (X := X) (a + 14)
  refine ⟨X, a + 14, Y, a + 14 + 12, x0, y0, by omega, by omega, ?_⟩
  have cl : ∀ q, q < a + 14 → cutL Y (a + 14) q = X q := fun q hq => (if_pos hq).trans (y2 q hq)
  have cg : ∀ q, a + 14 ≤ q → cutG Y (a + 14) q = Y q := fun q hq => if_neg (by omega)
  have lg : ∀ ad, a + 2 ≤ ad → ad + 2 < a + 14 → d_lg0 X a ad → d_LG a (a + 14 + 12 + 1) (cutL Y (a + 14)) ad (fun _ => a + 1) (fun _ => 0) (fun _ => 0) 0 (Int32.ofInt 2) (fun _ => 0) := fun ad h1 h2 h => d_lg0_LG (d_lg0_fr h (cl _ (by omega)) (cl _ (by omega)) (cl _ (by omega))) ((cl _ (by omega)).trans x2) h1
  refine ⟨0, (cl a (by omega)).trans x1, by omega, ⟨0, 0, 0, 0, 0, 0, 0, (cg _ (by omega)).trans y1⟩, ?_, ?_, ?_, ?_⟩
  · refine ⟨_, _, _, _, _, _, _, lg (a + 2) (by omega) (by omega) x3, ⟨⟨fun i hi => by omega, fun i hi => by omega, fun i j hi => by omega⟩, by omega, Or.inr rfl⟩, (cg _ (by omega)).trans y3, rfl, rfl, fun i hi => by omega⟩
  · exact ⟨_, _, _, _, _, _, _, lg (a + 8) (by omega) (by omega) x5, (cg _ (by omega)).trans y4, Or.inl rfl⟩
  · exact ⟨⟨_, _, _, _, _, _, lg (a + 5) (by omega) (by omega) x4⟩, ⟨_, (cl _ (by omega)).trans x8⟩, ⟨(cl _ (by omega)).trans x2, by omega, by omega⟩, ⟨_, (cg _ (by omega)).trans y5⟩, ⟨_, (cg _ (by omega)).trans y6⟩, ⟨_, (cg _ (by omega)).trans y13⟩⟩
  · exact ⟨fun _ => none, fun _ => none, fun _ => 0, fun _ => 0, fun _ => 0, fun _ => 0, fun _ => 0, fun _ => 0, fun _ => 0, ⟨(cl _ (by omega)).trans x6, (cl _ (by omega)).trans x7⟩, ⟨(cg _ (by omega)).trans y7, (cg _ (by omega)).trans y8, (cg _ (by omega)).trans y9, (cg _ (by omega)).trans y10, (cg _ (by omega)).trans y11, (cg _ (by omega)).trans y12⟩, fun d hd => Or.inl ⟨rfl, rfl, rfl⟩, fun d e hd he hde h => absurd h (show ¬ (0 : Int32) = 2 by decide)⟩
