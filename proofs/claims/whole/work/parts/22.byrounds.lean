/-! PURE: byRounds -/
theorem ring_x0 {p : Int32} (h : ¬ (3 ≤ p.toInt ∧ p.toInt ≤ 19)) : f10_isRing p = some 0 := by
  unfold f10_isRing
  have e3 : (Int32.ofInt 3).toInt = 3 := by decide
  have e19 : ((Int8.ofInt 19).toInt32).toInt = 19 := by decide
  by_cases h1 : p.toInt < 3
  · rw [if_pos (Int32.lt_iff_toInt_lt.mpr (by rw [e3]; exact h1))]; rfl
  · rw [if_neg (fun q => h1 (by have := Int32.lt_iff_toInt_lt.mp q; rw [e3] at this; exact this)), if_pos (Int32.lt_iff_toInt_lt.mpr (by rw [e19]; omega))]; rfl
theorem ring_m0 {p : Int32} (h : ¬ (3 ≤ p.toInt ∧ p.toInt ≤ 19)) : f11_isRound p = some 0 := by
  unfold f11_isRound
  rw [isIn_e]
  have e3 : (3 : Int64).toInt = 3 := by decide
  have e19 : (19 : Int64).toInt = 19 := by decide
  rw [e3, e19, Int32.toInt_toInt64, if_neg h]
  rfl
theorem ring_par : ([3, 4, 5, 6, 7, 8, 9, 10, 11, 12, 13, 14, 15, 16, 17, 18, 19] : List Int32).all (fun p => decide (f10_isRing p = f11_isRound p) && (f10_isRing p).isSome) = true := by decide +kernel
theorem br_even : ([4, 6, 8, 10, 12, 14, 16, 18] : List Int32).all (fun p => brOk p 1 && brOk p 2) = true := by decide +kernel
theorem ring_in {p : Int32} (h : 3 ≤ p.toInt ∧ p.toInt ≤ 19) : p ∈ ([3, 4, 5, 6, 7, 8, 9, 10, 11, 12, 13, 14, 15, 16, 17, 18, 19] : List Int32) := by
  have k : ∀ c : Int32, p.toInt = c.toInt → p = c := fun c h => Int32.toInt_inj.mp h
  rcases (show p.toInt = 3 ∨ p.toInt = 4 ∨ p.toInt = 5 ∨ p.toInt = 6 ∨ p.toInt = 7 ∨ p.toInt = 8 ∨ p.toInt = 9 ∨ p.toInt = 10 ∨ p.toInt = 11 ∨ p.toInt = 12 ∨ p.toInt = 13 ∨ p.toInt = 14 ∨ p.toInt = 15 ∨ p.toInt = 16 ∨ p.toInt = 17 ∨ p.toInt = 18 ∨ p.toInt = 19 by omega) with h1 | h1 | h1 | h1 | h1 | h1 | h1 | h1 | h1 | h1 | h1 | h1 | h1 | h1 | h1 | h1 | h1
  all_goals first
    | (rw [k 3 (h1.trans (by decide))]; decide)
    | (rw [k 4 (h1.trans (by decide))]; decide)
    | (rw [k 5 (h1.trans (by decide))]; decide)
    | (rw [k 6 (h1.trans (by decide))]; decide)
    | (rw [k 7 (h1.trans (by decide))]; decide)
    | (rw [k 8 (h1.trans (by decide))]; decide)
    | (rw [k 9 (h1.trans (by decide))]; decide)
    | (rw [k 10 (h1.trans (by decide))]; decide)
    | (rw [k 11 (h1.trans (by decide))]; decide)
    | (rw [k 12 (h1.trans (by decide))]; decide)
    | (rw [k 13 (h1.trans (by decide))]; decide)
    | (rw [k 14 (h1.trans (by decide))]; decide)
    | (rw [k 15 (h1.trans (by decide))]; decide)
    | (rw [k 16 (h1.trans (by decide))]; decide)
    | (rw [k 17 (h1.trans (by decide))]; decide)
    | (rw [k 18 (h1.trans (by decide))]; decide)
    | (rw [k 19 (h1.trans (by decide))]; decide)
theorem byR_ok (p q : Int32) : ∃ r, f10_byRounds z0 0 p q = some r ∧ f11_byRounds z0 0 p q = some r := by
  by_cases h : 3 ≤ p.toInt ∧ p.toInt ≤ 19
  · by_cases hq : q.toInt = 1 ∨ q.toInt = 2
    · have ev : brOk p q = true := by
        have hq2 : q = 1 ∨ q = 2 := hq.imp (fun e => Int32.toInt_inj.mp (e.trans (by decide))) (fun e => Int32.toInt_inj.mp (e.trans (by decide)))
        have all : ([3, 4, 5, 6, 7, 8, 9, 10, 11, 12, 13, 14, 15, 16, 17, 18, 19] : List Int32).all (fun p => brOk p 1 && brOk p 2) = true := by
          have he := br_even
          simp only [List.all_cons, List.all_nil, Bool.and_true] at he ⊢
          rw [br_3, br_5, br_7, br_9, br_11, br_13, br_15, br_17, br_19]
          simpa using he
        have hp := List.all_eq_true.mp all p (ring_in h)
        rw [Bool.and_eq_true] at hp
        rcases hq2 with rfl | rfl
        · exact hp.1
        · exact hp.2
      unfold brOk at ev
      rw [Bool.and_eq_true, decide_eq_true_eq] at ev
      obtain ⟨r, hr⟩ := Option.isSome_iff_exists.mp ev.1
      exact ⟨r, hr, ev.2 ▸ hr⟩
    · have hp := List.all_eq_true.mp ring_par p (ring_in h)
      rw [Bool.and_eq_true, decide_eq_true_eq] at hp
      obtain ⟨v, hv⟩ := Option.isSome_iff_exists.mp hp.2
      refine ⟨Int32.ofInt (-1), ?_, ?_⟩
      · unfold f10_byRounds
        rw [hv, isLaw_x, if_neg hq]
        show (if v = 0 then _ else _) = _
        split <;> rfl
      · unfold f11_byRounds
        rw [← hp.1, hv, isLaw_m, if_neg hq]
        show (if v = 0 then _ else _) = _
        split <;> rfl
  · refine ⟨Int32.ofInt (-1), ?_, ?_⟩
    · unfold f10_byRounds
      rw [ring_x0 h]
      rfl
    · unfold f11_byRounds
      rw [ring_m0 h]
      rfl
theorem sD_byRounds (R : (Nat → Option HO) → (Nat → Option HO) → Nat → Prop) (a ma : Nat) : S_byRounds R a ma := by
  intro X M n p1 p2 hR
  obtain ⟨r, h1, h2⟩ := byR_ok p1 p2
  exact ps_step (f := f10_byRounds (X, n) a p1 p2) (g := fun k => f11_byRounds (M, k) ma p1 p2) ((br_x _ _ _ _).trans h1) (fun k => (br_m _ _ _ _).trans h2) hR
