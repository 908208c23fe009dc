/-! PURE: row, put -/
theorem d_dis {kp : Nat → Int32} {c c' : Nat → Nat} {d : Nat} {x : Int32} (hx : ¬ x = 2) (dis : ∀ i j, i < 8 → j < 8 → i ≠ j → kp i = 2 → kp j = 2 → c i ≠ c j) : ∀ i j, i < 8 → j < 8 → i ≠ j → upd kp d x i = 2 → upd kp d x j = 2 → c i ≠ c j := by
  intro i j hi hj hij h1 h2
  have z1 : i ≠ d := fun z => by rw [z] at h1; exact hx ((if_pos rfl).symm.trans h1)
  have z2 : j ≠ d := fun z => by rw [z] at h2; exact hx ((if_pos rfl).symm.trans h2)
  exact dis i j hi hj hij ((if_neg z1).symm.trans h1) ((if_neg z2).symm.trans h2)
theorem sD_row (a ma : Nat) : S_row (d_R a ma) a ma := by
  intro X M nx p1 p2 p3 hR
  have hR0 := hR
  obtain ⟨hi, hX, ha, ⟨th, po, ba, en, lt, lp, sd, hM⟩, -, -, -, PS, RS, c, kp, so, sz, el, kk, kf, ⟨s1, s2⟩, ⟨t1, t2, t3, t4, t5, t6⟩, sh, dis⟩ := hR0
  have bad : ∀ (r : Int32) (fx : f10_row (X, nx) a p1 p2 p3 = some (r, (X, nx))) (fm : f11_row (M, nx) ma p1 p2 p3 = some (r, (M, nx))), ∃ (r : Int32) (X' : Nat → Option HO) (n' : Nat) (M' : Nat → Option HO) (n'' : Nat), f10_row (X, nx) a p1 p2 p3 = some (r, (X', n')) ∧ f11_row (M, n') ma p1 p2 p3 = some (r, (M', n'')) ∧ d_R a ma X' M' n'' := fun r fx fm => ⟨_, _, _, _, _, fx, fm, hR⟩
  have e100 : ((Int8.ofInt 100).toInt32).toInt = 100 := by decide
  cases e : d_is 8 p1 with
  | false =>
    refine bad (Int32.ofInt (-1)) ?_ ?_
    · unfold f10_row
      simp only [x_isShelf, e, obd, d_i0, if_true]
    · unfold f11_row
      simp only [m_isShelf, e, obd, d_i0, if_true]
  | true =>
    obtain ⟨d, hd, rfl⟩ := d_is_n e
    have two : ∀ p : Int32, f11_isIn p.toInt64 (Int64.ofNat 0) 2 = some (d_i (d_is 3 p)) := fun p => m_in p _ 3 (by decide)
    cases e2 : d_is 3 p2 with
    | false =>
      refine bad (Int32.ofInt (-1)) ?_ ?_
      · unfold f10_row
        simp only [x_isShelf, e, obd, d_i0, if_neg (show ¬ true = false by simp)]
        unfold d_is at e2
        rw [decide_eq_false_iff_not] at e2
        by_cases h1 : p2 < 0
        · rw [if_pos h1]
        · rw [if_neg h1, if_pos]
          rw [Int32.lt_iff_toInt_lt, d_z0] at h1
          rw [Int32.lt_iff_toInt_lt, show (Int32.ofInt 2).toInt = 2 by decide]
          omega
      · unfold f11_row
        simp only [m_isShelf, e, obd, d_i0, if_neg (show ¬ true = false by simp), two, e2, if_true]
    | true =>
      obtain ⟨t, ht, rfl⟩ := d_is_n e2
      have n0 : ¬ Int32.ofNat t < 0 := by rw [Int32.lt_iff_toInt_lt, d_tn (by omega), d_z0]; omega
      have n2 : ¬ Int32.ofInt 2 < Int32.ofNat t := by rw [Int32.lt_iff_toInt_lt, d_tn (by omega), show (Int32.ofInt 2).toInt = 2 by decide]; omega
      by_cases h1 : p3 ≤ (Int8.ofInt 100).toInt32
      · by_cases h2 : 0 ≤ p3
        · have h1' := h1
          have h2' := h2
          rw [Int32.le_iff_toInt_le, e100] at h1'
          rw [Int32.le_iff_toInt_le, d_z0] at h2'
          obtain ⟨m, hm, rfl⟩ : ∃ m, m ≤ 100 ∧ p3 = Int32.ofNat m := ⟨p3.toInt.toNat, by omega, by rw [← Int32.toInt_inj, d_tn (by omega)]; omega⟩
          let XA : Nat → Option HO := va_up X (a + 11) (some (.inr (.inr (false, 8, va_up PS d none))))
          let XB : Nat → Option HO := va_up (va_up XA nx (some (.inl (8, [.int (Int32.ofNat t), .ref (nx + 1)])))) (nx + 1) (d_A m (fun _ => 0))
          let XC : Nat → Option HO := va_up XB (a + 12) (some (.inr (.inr (true, 8, va_up RS d (some nx)))))
          let MA : Nat → Option HO := va_up (va_up (va_up M (ma + 5) (d_A 8 (upd kp d (Int32.ofInt 2)))) (ma + 6) (d_A 8 (upd so d (Int32.ofNat t)))) (ma + 7) (d_A 8 (upd sz d (Int32.ofNat m)))
          let EL : Nat → Nat → Int32 := fun i x => if 100 * d ≤ x ∧ x < 100 * d + i then 0 else el x
          let MB : Nat → Nat → Option HO := fun i => va_up MA (ma + 8) (d_A 800 (EL i))
          have hMA : d_MO MA ma hi th po ba en lt lp sd := (va_up_ne _ _ (by omega)).trans ((va_up_ne _ _ (by omega)).trans ((va_up_ne _ _ (by omega)).trans hM))
          have hMB : ∀ i, d_MO (MB i) ma hi th po ba en lt lp sd := fun i => (va_up_ne _ _ (by omega)).trans hMA
          have u : ∀ q, q ≠ a + 11 → q ≠ a + 12 → q < nx → XC q = X q := fun q h0 h1 h2 => (va_up_ne _ _ h1).trans ((va_up_ne _ _ (by omega)).trans ((va_up_ne _ _ (by omega)).trans (va_up_ne _ _ h0)))
          have mq : ∀ q, ¬ (ma + 5 ≤ q ∧ q ≤ ma + 10) → MB 100 q = M q := fun q hq => (va_up_ne _ _ (by omega)).trans ((va_up_ne _ _ (by omega)).trans ((va_up_ne _ _ (by omega)).trans (va_up_ne _ _ (by omega))))
          refine ⟨Int32.ofInt 0, XC, nx + 2, MB 100, nx + 2, ?_, ?_, ?_⟩
          · unfold f10_row
            simp only [x_isShelf, e, obd, d_i0, if_neg (show ¬ true = false by simp), if_neg n0, if_neg n2, if_pos h1, if_pos h2, c_5 hX, orf, d_rst0 (σ := (X, nx)) s1 hd]
            have hXA : d_CX XA a hi := (va_up_ne _ _ (by omega)).trans hX
            show obd (hfld (XA, nx) [10] 6 a) _ = _
            have hsz : szB (Int32.ofNat m) = true := by
              unfold szB
              rw [d_tn (by omega)]
              simp; omega
            rw [c_6 hXA, hsz]
            simp only [obd, ogd, orf]
            have i8 : f8_init (hnew (hnew (XA, nx) (.inl (8, [.int 0, .null]))) (.inr (.inl ((Int32.ofNat m).toNatClampNeg, fun _ => 0)))) nx (Int32.ofNat t) (nx + 1) = some (XB, nx + 2) := by
              unfold f8_init
              have g0 : hput (hnew (hnew (XA, nx) (.inl (8, [.int 0, .null]))) (.inr (.inl ((Int32.ofNat m).toNatClampNeg, fun _ => 0)))) [8] 0 nx (.int (Int32.ofNat t)) = some (va_up (va_up (va_up XA nx (some (.inl (8, [.int 0, .null])))) (nx + 1) (d_A m (fun _ => 0))) nx (some (.inl (8, [.int (Int32.ofNat t), .null]))), nx + 2) := by
                unfold hput hobj hnew
                simp only [d_nn (show m < 2147483648 by omega), va_up_ne _ _ (show nx ≠ nx + 1 by omega), va_up_self]
                rfl
              rw [g0]
              simp only [obd]
              have g1 : hput (va_up (va_up (va_up XA nx (some (.inl (8, [.int 0, .null])))) (nx + 1) (d_A m (fun _ => 0))) nx (some (.inl (8, [.int (Int32.ofNat t), .null]))), nx + 2) [8] 1 nx (.ref (nx + 1)) = some (va_up (va_up (va_up (va_up XA nx (some (.inl (8, [.int 0, .null])))) (nx + 1) (d_A m (fun _ => 0))) nx (some (.inl (8, [.int (Int32.ofNat t), .null])))) nx (some (.inl (8, [.int (Int32.ofNat t), .ref (nx + 1)]))), nx + 2) := by
                unfold hput hobj
                simp only [va_up_self]
                rfl
              rw [g1]
              simp only [Option.some.injEq, Prod.mk.injEq, and_true]
              funext q
              show va_up _ nx _ q = va_up _ (nx + 1) _ q
              unfold va_up
              by_cases z1 : q = nx
              · subst z1; simp
              · simp only [if_neg z1]
            show obd (f8_init (hnew (hnew (XA, nx) (.inl (8, [.int 0, .null]))) (.inr (.inl ((Int32.ofNat m).toNatClampNeg, fun _ => 0)))) nx (Int32.ofNat t) (nx + 1)) (fun s14 => obd (hrst s14 (a + 12) (Int32.ofNat d) (.ref nx)) (fun s15 => some (Int32.ofInt 0, s15))) = _
            rw [i8]
            simp only [obd]
            rw [d_rst1 (σ := (XB, nx + 2)) (c := 8) ((va_up_ne _ _ (by omega)).trans ((va_up_ne _ _ (by omega)).trans ((va_up_ne _ _ (by omega)).trans s2))) hd (d_hcls (σ := (XB, nx + 2)) ((va_up_ne _ _ (by omega)).trans (va_up_self _ _ _))) rfl]
            rfl
          · unfold f11_row
            simp only [m_isShelf, e, obd, d_i0, if_neg (show ¬ true = false by simp), two, e2, if_pos h1, if_pos h2, n_4 hM, orf]
            have w1 : hast (M, nx + 2) (ma + 5) (Int32.ofNat d) (Int32.ofInt 2) = some (va_up M (ma + 5) (d_A 8 (upd kp d (Int32.ofInt 2))), nx + 2) := d_ast (σ := (M, nx + 2)) t1 hd (by omega)
            have hM1 : d_MO (va_up M (ma + 5) (d_A 8 (upd kp d (Int32.ofInt 2)))) ma hi th po ba en lt lp sd := (va_up_ne _ _ (by omega)).trans hM
            have w2 : hast (va_up M (ma + 5) (d_A 8 (upd kp d (Int32.ofInt 2))), nx + 2) (ma + 6) (Int32.ofNat d) (Int32.ofNat t) = some (va_up (va_up M (ma + 5) (d_A 8 (upd kp d (Int32.ofInt 2)))) (ma + 6) (d_A 8 (upd so d (Int32.ofNat t))), nx + 2) := d_ast (σ := (va_up M (ma + 5) (d_A 8 (upd kp d (Int32.ofInt 2))), nx + 2)) ((va_up_ne _ _ (by omega)).trans t2) hd (by omega)
            have hM2 : d_MO (va_up (va_up M (ma + 5) (d_A 8 (upd kp d (Int32.ofInt 2)))) (ma + 6) (d_A 8 (upd so d (Int32.ofNat t)))) ma hi th po ba en lt lp sd := (va_up_ne _ _ (by omega)).trans hM1
            have w3 : hast (va_up (va_up M (ma + 5) (d_A 8 (upd kp d (Int32.ofInt 2)))) (ma + 6) (d_A 8 (upd so d (Int32.ofNat t))), nx + 2) (ma + 7) (Int32.ofNat d) (Int32.ofNat m) = some (MA, nx + 2) := d_ast (σ := (va_up (va_up M (ma + 5) (d_A 8 (upd kp d (Int32.ofInt 2)))) (ma + 6) (d_A 8 (upd so d (Int32.ofNat t))), nx + 2)) ((va_up_ne _ _ (by omega)).trans ((va_up_ne _ _ (by omega)).trans t3)) hd (by omega)
            simp only [w1, n_5 hM1, w2, n_6 hM2, w3]
            have hs : MA = MB 0 := by
              funext q
              show MA q = va_up MA (ma + 8) (d_A 800 (EL 0)) q
              by_cases z : q = ma + 8
              · rw [z, va_up_self]
                have : EL 0 = el := by
                  funext x
                  show (if 100 * d ≤ x ∧ x < 100 * d + 0 then 0 else el x) = el x
                  rw [if_neg (by omega)]
                rw [this]
                exact (va_up_ne _ _ (by omega)).trans ((va_up_ne _ _ (by omega)).trans ((va_up_ne _ _ (by omega)).trans t4))
              · rw [va_up_ne _ _ z]
            have lp1 : iter (f11_row_L58 ma (Int32.ofNat d)) FU (Int32.ofNat 0, (MB 0, nx + 2)) = some (MB 100, nx + 2) := by
              refine d_for (fun i => (Int32.ofNat i, ((MB i, nx + 2) : HM))) _ 100 0 (by omega) (by omega) ?_ ?_
              · intro i _ hi
                unfold f11_row_L58
                simp only
                rw [if_neg (by rw [Int32.le_iff_toInt_le, e100, d_tn (by omega)]; omega)]
                simp only [n_7 (hMB i), obd, orf, d_100]
                rw [d_ast (σ := (MB i, nx + 2)) (va_up_self _ _ _) (show 100 * d + i < 800 by omega) (by omega)]
                simp only [d_su]
                unfold hset
                simp only [MB, d_up_up]
                congr 9
                funext x
                unfold upd
                show (if x = 100 * d + i then Int32.ofInt 0 else EL i x) = EL (i + 1) x
                show (if x = 100 * d + i then Int32.ofInt 0 else if 100 * d ≤ x ∧ x < 100 * d + i then 0 else el x) = (if 100 * d ≤ x ∧ x < 100 * d + (i + 1) then 0 else el x)
                by_cases z : x = 100 * d + i
                · rw [if_pos z, if_pos (by omega)]; rfl
                · rw [if_neg z]
                  by_cases z2 : 100 * d ≤ x ∧ x < 100 * d + i
                  · rw [if_pos z2, if_pos (by omega)]
                  · rw [if_neg z2, if_neg (by omega)]
              · unfold f11_row_L58
                simp only
                rw [if_pos (by rw [Int32.le_iff_toInt_le, e100, d_tn (by omega)]; omega)]
            rw [hs, show iter (f11_row_L58 ma (Int32.ofNat d)) FU (Int32.ofInt 0, (MB 0, nx + 2)) = _ from lp1]
          · refine d_R_shelf hR (by omega) (fun q hq _ => u q (by have := (d_ok_lt ha hq).2.1; omega) (by have := (d_ok_lt ha hq).2.1; omega) (d_ok_lt ha hq).1) (fun q hq => u q (by omega) (by omega) (by omega)) mq ?_
            refine ⟨va_up PS d none, va_up RS d (some nx), va_up c d (nx + 1), upd kp d (Int32.ofInt 2), upd so d (Int32.ofNat t), upd sz d (Int32.ofNat m), EL 100, kk, kf, ⟨(va_up_ne _ _ (by omega)).trans ((va_up_ne _ _ (by omega)).trans ((va_up_ne _ _ (by omega)).trans (va_up_self _ _ _))), va_up_self _ _ _⟩, ⟨(va_up_ne _ _ (by omega)).trans ((va_up_ne _ _ (by omega)).trans ((va_up_ne _ _ (by omega)).trans (va_up_self _ _ _))), (va_up_ne _ _ (by omega)).trans ((va_up_ne _ _ (by omega)).trans (va_up_self _ _ _)), (va_up_ne _ _ (by omega)).trans (va_up_self _ _ _), va_up_self _ _ _, (va_up_ne _ _ (by omega)).trans ((va_up_ne _ _ (by omega)).trans ((va_up_ne _ _ (by omega)).trans ((va_up_ne _ _ (by omega)).trans t5))), (va_up_ne _ _ (by omega)).trans ((va_up_ne _ _ (by omega)).trans ((va_up_ne _ _ (by omega)).trans ((va_up_ne _ _ (by omega)).trans t6)))⟩, fun i hi => ?_, fun i j hi hj hij h1 h2 => ?_⟩
            · by_cases z : i = d
              · subst z
                rw [va_up_self, va_up_self, va_up_self]
                refine Or.inr (Or.inr ⟨if_pos rfl, rfl, nx, t, m, fun _ => 0, rfl, ha, by omega, by omega, by omega, (va_up_ne _ _ (by omega)).trans ((va_up_ne _ _ (by omega)).trans (va_up_self _ _ _)), (va_up_ne _ _ (by omega)).trans (va_up_self _ _ _), hm, ht, if_pos rfl, if_pos rfl, fun x hx => ?_⟩)
                exact (if_pos (by omega)).symm
              · rw [va_up_ne _ _ z, va_up_ne _ _ z, va_up_ne _ _ z]
                refine d_SH_ch (sh i hi) (by omega) (fun q hq _ => u q (by have := (d_ok_lt ha hq).2.1; omega) (by have := (d_ok_lt ha hq).2.1; omega) (d_ok_lt ha hq).1) (fun _ hq => u _ (by have := (d_ok_lt ha hq).2.1; omega) (by have := (d_ok_lt ha hq).2.1; omega) (d_ok_lt ha hq).1) (if_neg z) (if_neg z) (if_neg z) rfl rfl (fun x hx => ?_)
                exact if_neg (by omega)
            · by_cases z1 : i = d
              · have z2 : j ≠ d := fun z => hij (z1.trans z.symm)
                rw [z1, va_up_self, va_up_ne _ _ z2]
                rcases sh j hj with ⟨q, -⟩ | ⟨q, -⟩ | ⟨-, -, r, t', m', g', -, -, -, -, q, -⟩
                · exact absurd (q.symm.trans ((if_neg z2).symm.trans h2)) (by decide)
                · exact absurd (q.symm.trans ((if_neg z2).symm.trans h2)) (by decide)
                · omega
              · rw [va_up_ne _ _ z1]
                by_cases z2 : j = d
                · rw [z2, va_up_self]
                  rcases sh i hi with ⟨q, -⟩ | ⟨q, -⟩ | ⟨-, -, r, t', m', g', -, -, -, -, q, -⟩
                  · exact absurd (q.symm.trans ((if_neg z1).symm.trans h1)) (by decide)
                  · exact absurd (q.symm.trans ((if_neg z1).symm.trans h1)) (by decide)
                  · omega
                · rw [va_up_ne _ _ z2]
                  exact dis i j hi hj hij ((if_neg z1).symm.trans h1) ((if_neg z2).symm.trans h2)
        · refine bad ((Int8.ofInt (-14)).toInt32) ?_ ?_
          · unfold f10_row
            simp only [x_isShelf, e, obd, d_i0, if_neg (show ¬ true = false by simp), if_neg n0, if_neg n2, if_pos h1, if_neg h2]
          · unfold f11_row
            simp only [m_isShelf, e, obd, d_i0, if_neg (show ¬ true = false by simp), two, e2, if_pos h1, if_neg h2]
      · refine bad (Int32.ofInt (-1)) ?_ ?_
        · unfold f10_row
          simp only [x_isShelf, e, obd, d_i0, if_neg (show ¬ true = false by simp), if_neg n0, if_neg n2, if_neg h1]
        · unfold f11_row
          simp only [m_isShelf, e, obd, d_i0, if_neg (show ¬ true = false by simp), two, e2, if_neg h1]
theorem d_fill {t : Nat} (ht : t < 3) (x y z : Option HM) : (if Int32.ofNat t = 0 then x else if Int32.ofNat t = 1 then y else z) = (if t = 0 then x else if t = 1 then y else z) := by
  rcases (show t = 0 ∨ t = 1 ∨ t = 2 by omega) with rfl | rfl | rfl <;> rfl
def d_nar (t : Nat) (x : Int32) : Int32 := if t = 0 then x.toInt8.toInt32 else if t = 1 then x.toInt16.toInt32 else x
theorem sD_put (a ma : Nat) : S_put (d_R a ma) a ma := by
  intro X M nx p1 p2 p3 hR
  have hR0 := hR
  obtain ⟨hi, hX, ha, ⟨th, po, ba, en, lt, lp, sd, hM⟩, -, -, -, PS, RS, c, kp, so, sz, el, kk, kf, ⟨s1, s2⟩, ⟨t1, t2, t3, t4, t5, t6⟩, sh, dis⟩ := hR0
  have bad : ∀ (r : Int32) (fx : f10_put (X, nx) a p1 p2 p3 = some (r, (X, nx))) (fm : f11_put (M, nx) ma p1 p2 p3 = some (r, (M, nx))), ∃ (r : Int32) (X' : Nat → Option HO) (n' : Nat) (M' : Nat → Option HO) (n'' : Nat), f10_put (X, nx) a p1 p2 p3 = some (r, (X', n')) ∧ f11_put (M, n') ma p1 p2 p3 = some (r, (M', n'')) ∧ d_R a ma X' M' n'' := fun r fx fm => ⟨_, _, _, _, _, fx, fm, hR⟩
  cases e : d_is 8 p1 with
  | false =>
    refine bad (Int32.ofInt (-1)) ?_ ?_
    · unfold f10_put
      simp only [c_c hX, x_row0 e, obd, onl, x_why0 e]
    · unfold f11_put
      simp only [n_c hM, m_wrongRow0 e, obd]
      rfl
  | true =>
    obtain ⟨d, hd, rfl⟩ := d_is_n e
    rcases d_SH_RW (sh d hd) with ⟨b1, b2, b3⟩ | ⟨b1, b2, q, k, f, b3, b4, b5, b6, b7⟩ | ⟨b1, b2, r, t, m, g, b3, b4, b5, b6, b7, b8⟩
    · refine bad ((Int8.ofInt (-11)).toInt32) ?_ ?_
      · unfold f10_put
        simp only [c_c hX, x_rowOn hX s2 hd, obd, onl, va_rf, b3, x_why hX s1 s2 hd, b2]
        rfl
      · unfold f11_put
        simp only [n_c hM, m_wrongRow hM t1 t2 hd, obd, b1]
        rfl
    · refine bad ((Int8.ofInt (-12)).toInt32) ?_ ?_
      · unfold f10_put
        simp only [c_c hX, x_rowOn hX s2 hd, obd, onl, va_rf, b2, x_why hX s1 s2 hd, b3]
        rfl
      · unfold f11_put
        simp only [n_c hM, m_wrongRow hM t1 t2 hd, obd, b1]
        rfl
    · have hm := b5.2.2.1
      have ht := b5.2.2.2
      have szm : ((Int32.ofNat m - Int32.ofInt 1).toInt64).toInt = (m : Int) - 1 := (show ∀ n, n < 101 → ((Int32.ofNat n - Int32.ofInt 1).toInt64).toInt = (n : Int) - 1 by decide +kernel) m (by omega)
      have wr : ∀ k, f11_wrongRow (M, k) ma (Int32.ofNat d) (Int32.ofInt (-1)) = some (Int32.ofInt 0) := fun k => by
        rw [m_wrongRow hM t1 t2 hd, b1, if_neg (by decide), if_pos (by decide), if_pos (by decide)]
      cases e2 : d_is m p2 with
      | false =>
        refine bad ((Int8.ofInt (-13)).toInt32) ?_ ?_
        · unfold f10_put
          simp only [c_c hX, x_rowOn hX s2 hd, obd, onl, va_rf, b3, r_c b5, r_places b5, d_pl1, e2, d_i0, if_true]
        · unfold f11_put
          simp only [n_c hM, wr, obd, if_pos (show Int32.ofInt 0 = 0 from rfl), n_6 hM, orf, d_ild M t3 hd (show 8 ≤ 1000 by omega), b7, m_in p2 _ m szm, e2, d_i0, if_true]
      | true =>
        obtain ⟨i, hi, rfl⟩ := d_is_n e2
        let XC : Nat → Option HO := va_up X (c d) (d_A m (upd g i (d_nar t p3)))
        let MC : Nat → Option HO := va_up M (ma + 8) (d_A 800 (upd el (100 * d + i) (d_nar t p3)))
        have st : ∀ x, hast (X, nx) (c d) (Int32.ofNat i) x = some (va_up X (c d) (d_A m (upd g i x)), nx) := fun x => d_ast (σ := (X, nx)) b5.2.1 hi (by omega)
        have mst : ∀ x, hast (M, nx) (ma + 8) (Int32.ofNat (100 * d + i)) x = some (va_up M (ma + 8) (d_A 800 (upd el (100 * d + i) x)), nx) := fun x => d_ast (σ := (M, nx)) t4 (by omega) (by omega)
        have u : ∀ q, (∃ o, X q = some (.inl o)) → XC q = X q := fun q hq => va_up_ne _ _ (fun z => by obtain ⟨o, ho⟩ := hq; rw [z, b5.2.1] at ho; cases ho)
        have u2 : ∀ q, q < a + 14 → XC q = X q := fun q hq => va_up_ne _ _ (by omega)
        refine ⟨Int32.ofInt 0, XC, nx, MC, nx, ?_, ?_, ?_⟩
        · unfold f10_put
          simp only [c_c hX, x_rowOn hX s2 hd, obd, onl, va_rf, b3, r_c b5, r_places b5, d_pl1, e2, d_i0, if_neg (show ¬ true = false by simp)]
          have ch : f8_change (X, nx) r (Int32.ofNat i) p3 = some (XC, nx) := by
            unfold f8_change
            simp only [r_c b5, r_places b5, d_pl1, e2, d_i0, if_neg (show ¬ true = false by simp), obd, r_0 b5, r_1 b5, orf, st]
            rw [d_fill ht]
            show _ = some (va_up X (c d) (d_A m (upd g i (if t = 0 then _ else if t = 1 then _ else _))), nx)
            repeat' split
            all_goals rfl
          simp only [ch]
        · unfold f11_put
          simp only [n_c hM, wr, obd, if_pos (show Int32.ofInt 0 = 0 from rfl), n_6 hM, n_5 hM, n_7 hM, orf, d_ild M t3 hd (show 8 ≤ 1000 by omega), d_ild M t2 hd (show 8 ≤ 1000 by omega), b6, b7, m_in _ _ m szm, e2, d_i0, if_neg (show ¬ true = false by simp), d_100, mst]
          rcases (show t = 0 ∨ t = 1 ∨ t = 2 by omega) with rfl | rfl | rfl <;> rfl
        · refine d_R_shelf hR (Nat.le_refl _) (fun q _ hq => u q hq) (fun q hq => u2 q (by omega)) (fun q hq => va_up_ne _ _ (by omega)) ?_
          refine ⟨PS, RS, c, kp, so, sz, upd el (100 * d + i) (d_nar t p3), kk, kf, ⟨(u2 _ (by omega)).trans s1, (u2 _ (by omega)).trans s2⟩, ⟨(va_up_ne _ _ (by omega)).trans t1, (va_up_ne _ _ (by omega)).trans t2, (va_up_ne _ _ (by omega)).trans t3, va_up_self _ _ _, (va_up_ne _ _ (by omega)).trans t5, (va_up_ne _ _ (by omega)).trans t6⟩, fun j hj => ?_, dis⟩
          by_cases z : j = d
          · subst z
            rw [b2, b3]
            refine Or.inr (Or.inr ⟨b1, rfl, r, t, m, upd g i (d_nar t p3), rfl, b4.1, b4.2.1, b4.2.2.1, b4.2.2.2, (u r ⟨_, b5.1⟩).trans b5.1, va_up_self _ _ _, hm, ht, b6, b7, fun x hx => ?_⟩)
            unfold upd
            by_cases z : x = i
            · rw [if_pos z, if_pos (by omega)]
            · rw [if_neg z, if_neg (by omega)]; exact b8 x hx
          · exact d_SH_ch (sh j hj) (Nat.le_refl _) (fun q _ hq => u q hq) (fun h2 _ => va_up_ne _ _ (dis j d hj hd z h2 b1)) rfl rfl rfl rfl rfl (fun x hx => if_neg (by omega))
