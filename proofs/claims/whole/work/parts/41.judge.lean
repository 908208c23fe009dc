/-! PURE: element, judge -/
theorem d_R_obj {a ma nx nx' : Nat} {X M M' : Nat → Option HO} (h : d_R a ma X M nx) (hn : nx ≤ nx') (hM : ∀ q, q ≠ ma → M' q = M q) (hO : ∀ hi th po ba en lt lp sd, d_MO M ma hi th po ba en lt lp sd → ∃ th po ba en lt lp sd, d_MO M' ma hi th po ba en lt lp sd) : d_R a ma X M' nx' := by
  obtain ⟨hi, b1, b2, ⟨th, po, ba, en, lt, lp, sd, b3⟩, b4, b5, b6, b7⟩ := h
  exact ⟨hi, b1, by omega, hO _ _ _ _ _ _ _ _ b3, d_RN_fr b4 hn (fun q _ => rfl) rfl rfl rfl (fun S n K F B lw g1 _ g2 => ⟨S, (hM _ (by omega)).trans g1, g2⟩), d_RI_fr b5 hn (fun q _ => rfl) rfl rfl rfl (hM _ (by omega)), d_RD_fr b6 hn (fun q _ => rfl) rfl rfl rfl rfl (hM _ (by omega)) (hM _ (by omega)) (hM _ (by omega)), d_RS_fr b7 hn (fun q _ => rfl) rfl rfl (fun k _ _ => hM _ (by omega))⟩
theorem d_100 (d i : Nat) : (Int8.ofInt 100).toInt32 * Int32.ofNat d + Int32.ofNat i = Int32.ofNat (100 * d + i) := by
  rw [Int32.ofNat_add, Int32.ofNat_mul]; rfl
theorem sD_element (a ma : Nat) : S_element (d_R a ma) a ma := by
  intro X M nx p1 p2 hR
  have hR0 := hR
  obtain ⟨hi, hX, ha, ⟨th, po, ba, en, lt, lp, sd, hM⟩, b4, b5, b6, PS, RS, c, kp, so, sz, el, kk, kf, ⟨s1, s2⟩, ⟨t1, t2, t3, t4, t5, t6⟩, sh, s3⟩ := hR0
  let M1 : Int32 → Nat → Option HO := fun r => va_up M ma (some (.inl (11, [.ref (ma + 1), .ref (ma + 2), .ref (ma + 3), .ref (ma + 4), .ref (ma + 5), .ref (ma + 6), .ref (ma + 7), .ref (ma + 8), .ref (ma + 9), .ref (ma + 10), .int hi, .int r, .int po, .int ba, .int en, .ref (ma + 11), .int lt, .int lp, .int sd])))
  have hM1 : ∀ r, d_MO (M1 r) ma hi r po ba en lt lp sd := fun r => va_up_self _ _ _
  have hR1 : ∀ r n1, nx ≤ n1 → d_R a ma X (M1 r) n1 := fun r n1 h1 => d_R_obj hR h1 (fun q hq => va_up_ne _ _ hq) (fun hi' th' po' ba' en' lt' lp' sd' h => by
    have e : hi' = hi := by
      have q : some _ = some _ := h.symm.trans hM
      simp only [Option.some.injEq, Sum.inl.injEq, Prod.mk.injEq, List.cons.injEq, Value.int.injEq] at q
      exact q.2.2.2.2.2.2.2.2.2.2.2.1
    rw [e]
    exact ⟨r, po, ba, en, lt, lp, sd, hM1 r⟩)
  have thr : ∀ r n1, f11_thrown (M1 r, n1) ma = some r := fun r n1 => by
    unfold f11_thrown
    simp only [d_hfi (σ := (M1 r, n1)) (k := 11) (S := [11]) (hM1 r) rfl rfl, obd]
  have put : ∀ r n1, hput (M, n1) [11] 11 ma (.int r) = some (M1 r, n1) := fun r n1 => by
    unfold hput hobj
    simp only [show M ma = _ from hM]
    rfl
  have k45 : ∀ r n1, ¬ r = 0 → f11_element_K45 (M, n1) ma p1 p2 r ma = some (Int64.ofNat 0, (M1 r, n1)) := fun r n1 hr => by
    unfold f11_element_K45
    simp only [put, obd, d_hfi (σ := (M1 r, n1)) (k := 11) (S := [11]) (hM1 r) rfl rfl, if_neg hr]
  cases e : d_is 8 p1 with
  | false =>
    refine ⟨some sIAE, 0, Int32.ofInt 1, Int64.ofNat 0, ?_, by decide +kernel, fun h => absurd h (by decide), fun n1 h1 => ⟨M1 (Int32.ofInt 1), n1, ?_, thr _ _, hR1 _ _ h1⟩⟩
    · unfold f10_element
      simp only [x_isShelf, e, obd, d_i0, not_true, if_false]
    · unfold f11_element
      simp only [m_isShelf, e, obd, d_i0, if_true, k45 _ _ (show ¬ Int32.ofInt 1 = 0 by decide)]
  | true =>
    obtain ⟨d, hd, rfl⟩ := d_is_n e
    have two : ∀ (fx : f10_element (X, nx) a (Int32.ofNat d) p2 = some (some sISE, 0)) (fm : ∀ n1, f11_element (M, n1) ma (Int32.ofNat d) p2 = f11_element_K45 (M, n1) ma (Int32.ofNat d) p2 (Int32.ofInt 2) ma), ∃ (fl : Option String) (u : Int64) (r : Int32) (w : Int64), f10_element (X, nx) a (Int32.ofNat d) p2 = some (fl, u) ∧ fel fl = some r ∧ (r = 0 → fl = none ∧ u = w) ∧ ∀ n1, nx ≤ n1 → ∃ M' n2, f11_element (M, n1) ma (Int32.ofNat d) p2 = some (w, (M', n2)) ∧ f11_thrown (M', n2) ma = some r ∧ d_R a ma X M' n2 := fun fx fm =>
      ⟨some sISE, 0, Int32.ofInt 2, Int64.ofNat 0, fx, by decide +kernel, fun h => absurd h (by decide), fun n1 h1 => ⟨M1 (Int32.ofInt 2), n1, (fm n1).trans (k45 _ _ (by decide)), thr _ _, hR1 _ _ h1⟩⟩
    rcases d_SH_RW (sh d hd) with ⟨b1, b2, b3⟩ | ⟨b1, b2, q, k, f, b3, b4, b5, b6, b7⟩ | ⟨b1, b2, r, t, m, g, b3, b4, b5, b6, b7, b8⟩
    · refine two ?_ (fun n1 => ?_)
      · unfold f10_element
        simp only [x_isShelf, e, obd, d_i0, c_c hX, x_rowOn hX s2 hd, b3, va_rf, onl]
        rfl
      · unfold f11_element
        simp only [m_isShelf, e, obd, d_i0, n_4 hM, orf, d_ild M t1 hd (by omega), b1]
        rfl
    · refine two ?_ (fun n1 => ?_)
      · unfold f10_element
        simp only [x_isShelf, e, obd, d_i0, c_c hX, x_rowOn hX s2 hd, b2, va_rf, onl]
        rfl
      · unfold f11_element
        simp only [m_isShelf, e, obd, d_i0, n_4 hM, orf, d_ild M t1 hd (by omega), b1]
        rfl
    · have hm := b5.2.2.1
      have szm : ((Int32.ofNat m - Int32.ofInt 1).toInt64).toInt = (m : Int) - 1 := (show ∀ n, n < 101 → ((Int32.ofNat n - Int32.ofInt 1).toInt64).toInt = (n : Int) - 1 by decide +kernel) m (by omega)
      cases e2 : d_is m p2 with
      | false =>
        refine two ?_ (fun n1 => ?_)
        · unfold f10_element
          simp only [x_isShelf, e, obd, d_i0, c_c hX, x_rowOn hX s2 hd, b3, va_rf, onl, r_c b5, r_places b5, d_pl1, e2]
          rfl
        · unfold f11_element
          simp only [m_isShelf, e, obd, d_i0, n_4 hM, n_6 hM, orf, d_ild M t1 hd (by omega), d_ild M t3 hd (by omega), b1, b7, isIn_e]
          rw [szm, Int32.toInt_toInt64, show (Int64.ofNat 0).toInt = 0 by decide, d_i_if]
          have : decide (0 ≤ p2.toInt ∧ p2.toInt ≤ (m : Int) - 1) = false := by
            rw [← e2]; unfold d_is; congr 1; apply propext; omega
          simp only [this, d_i0]
          rfl
      | true =>
        obtain ⟨i, hi, rfl⟩ := d_is_n e2
        refine ⟨none, (g i).toInt64, Int32.ofInt 0, (g i).toInt64, ?_, by decide +kernel, fun _ => ⟨rfl, rfl⟩, fun n1 h1 => ⟨M1 (Int32.ofInt 0), n1, ?_, thr _ _, hR1 _ _ h1⟩⟩
        · unfold f10_element
          simp only [x_isShelf, e, obd, d_i0, c_c hX, x_rowOn hX s2 hd, b3, va_rf, onl, r_c b5, r_places b5, d_pl1, e2, r_at b5, d_nn (show i < 2147483648 by omega)]
          rfl
        · have k0 : f11_element_K45 (M, n1) ma (Int32.ofNat d) (Int32.ofNat i) (Int32.ofInt 0) ma = some ((g i).toInt64, (M1 (Int32.ofInt 0), n1)) := by
            unfold f11_element_K45
            simp only [put, obd, d_hfi (σ := (M1 (Int32.ofInt 0), n1)) (k := 11) (S := [11]) (hM1 (Int32.ofInt 0)) rfl rfl, if_pos (show Int32.ofInt 0 = 0 from rfl), n_7 (hM1 (Int32.ofInt 0)), orf, d_100, d_ild (M1 (Int32.ofInt 0)) ((va_up_ne _ _ (by omega)).trans t4) (show 100 * d + i < 800 by omega) (by omega), b8 i hi]
          unfold f11_element
          simp only [m_isShelf, e, obd, d_i0, n_4 hM, n_6 hM, orf, d_ild M t1 hd (by omega), d_ild M t3 hd (by omega), b1, b7, isIn_e]
          rw [szm, Int32.toInt_toInt64, show (Int64.ofNat 0).toInt = 0 by decide, d_i_if]
          have : decide (0 ≤ (Int32.ofNat i).toInt ∧ (Int32.ofNat i).toInt ≤ (m : Int) - 1) = true := by
            rw [← e2]; unfold d_is; congr 1; apply propext; omega
          simp only [this, d_i0, if_neg (show ¬ true = false by simp), k0]
          rfl
/-! judge -/
def d_w3 (n : Nat) (K F : Nat → Nat) (B : Nat → Int32) (p q r : Int32) : Nat := if d_is n p = true then (if d_two n p q = true then (if (d_is n r && d_ms K F B p.toNatClampNeg q.toNatClampNeg r.toNatClampNeg) = true then 3 else 2) else 1) else 0
theorem d_w3_le (n : Nat) (K F : Nat → Nat) (B : Nat → Int32) (p q r : Int32) : d_w3 n K F B p q r ≤ 3 := by
  unfold d_w3
  repeat' split
  all_goals omega
theorem x_w3 {X : Nat → Option HO} {ad n nx : Nat} {P K F : Nat → Nat} {lw : Int32} {B : Nat → Int32} (L : d_LX X ad P K F n lw) (T : d_TB n B) (p q r : Int32) : f2_wrongOfThree (d_cB X ad B, nx) ad p q r = some (if d_w3 n K F B p q r = 3 then Int32.ofInt (-1) else Int32.ofNat (d_w3 n K F B p q r)) := by
  have hn := L.2.2
  unfold f2_wrongOfThree d_w3
  simp only [x_c L, x_has L, x_two L, obd, d_i0]
  cases e1 : d_is n p with
  | false => rfl
  | true =>
    cases e2 : d_two n p q with
    | false => rfl
    | true =>
      cases e3 : d_is n r with
      | false => rfl
      | true =>
        obtain ⟨i, j, h1, h2, h3, rfl, rfl⟩ := d_two_n e2
        obtain ⟨k, h4, rfl⟩ := d_is_n e3
        simp only [x_counting L (fun i hi => d_TB_sm T hn hi), x_masters L T h1 h2, d_bit _ (show k < 32 by omega), d_mkb _ n (show n ≤ 31 by omega), d_nn (show i < 2147483648 by omega), d_nn (show j < 2147483648 by omega), d_nn (show k < 2147483648 by omega), h4, decide_true, Bool.true_and, d_i0]
        cases d_ms K F B i j k <;> rfl
theorem d_102 (i j : Nat) (h : j < 3) : Int32.ofNat i + Int32.ofInt j = Int32.ofNat (i + j) := by
  rcases (show j = 0 ∨ j = 1 ∨ j = 2 by omega) with rfl | rfl | rfl <;> (rw [Int32.ofNat_add]; rfl)
theorem m_told {M : Nat → Option HO} {ma nx : Nat} {hi th po ba en lt lp sd : Int32} {el : Nat → Int32} (h : d_MO M ma hi th po ba en lt lp sd) (h8 : M (ma + 8) = d_A 800 el) {d i : Nat} (hd : d < 8) (hi : i < 100) : f11_told (M, nx) ma (Int32.ofNat d) (Int32.ofNat i) = some (el (100 * d + i)) := by
  unfold f11_told
  simp only [n_7 h, obd, orf, d_100, d_ild M h8 (show 100 * d + i < 800 by omega) (by omega)]
theorem m_w3 {M : Nat → Option HO} {ma n nx : Nat} {hi th po ba en lt lp sd : Int32} {el S : Nat → Int32} {K F : Nat → Nat} {B : Nat → Int32} {lw : Int32} (h : d_MO M ma hi th po ba en lt lp sd) (h8 : M (ma + 8) = d_A 800 el) (hS0 : M (ma + 1) = d_A 26 S) (hS : d_MS S n K F B lw) (hn : n ≤ 8) (hk : d_KF n K F) (T : d_TB n B) {d i : Nat} (hd : d < 8) (hi : i + 2 < 100) : f11_wrongThree (M, nx) ma (Int32.ofNat d) (Int32.ofNat i) = some (if d_w3 n K F B (el (100 * d + i)) (el (100 * d + (i + 1))) (el (100 * d + (i + 2))) = 3 then (Int8.ofInt (-4)).toInt32 else Int32.ofNat (i + d_w3 n K F B (el (100 * d + i)) (el (100 * d + (i + 1))) (el (100 * d + (i + 2))))) := by
  have Z := d_MO_Z h
  have eM := d_mS_e hS0
  have q1 : ∀ p, f11_isOne (M, nx) ma p = some (d_i (d_is n p)) := fun p => by have := m_isOne (nx := nx) Z hS hn p; rwa [eM] at this
  have q2 : ∀ p q, f11_areTwo (M, nx) ma p q = some (d_i (d_two n p q)) := fun p q => by have := m_two (nx := nx) Z hS hn p q; rwa [eM] at this
  have q3 : ∀ i j, i < n → j < n → f11_mastersOf (M, nx) ma (d_one i ||| d_one j) = some (d_mk n (d_ms K F B i j)) := fun i j hi hj => by have := m_masters (nx := nx) Z hS hn hk T hi hj; rwa [eM] at this
  unfold f11_wrongThree d_w3
  simp only [n_c h, d_su, show Int32.ofNat i + Int32.ofInt 2 = Int32.ofNat (i + 2) from d_102 i 2 (by omega), m_told h h8 hd (show i < 100 by omega), m_told h h8 hd (show i + 1 < 100 by omega), m_told h h8 hd (show i + 2 < 100 by omega), obd, q1, q2, d_i0]
  generalize el (100 * d + i) = p
  generalize el (100 * d + (i + 1)) = q
  generalize el (100 * d + (i + 2)) = r
  cases e1 : d_is n p with
  | false => rfl
  | true =>
    cases e2 : d_two n p q with
    | false => rfl
    | true =>
      cases e3 : d_is n r with
      | false => rfl
      | true =>
        obtain ⟨i', j, h1, h2, h3, rfl, rfl⟩ := d_two_n e2
        obtain ⟨k, h4, rfl⟩ := d_is_n e3
        simp only [d_one_e (show i' < 32 by omega), d_one_e (show j < 32 by omega), q3 _ _ h1 h2, d_bit _ (show k < 32 by omega), d_mkb _ n (show n ≤ 31 by omega), d_nn (show i' < 2147483648 by omega), d_nn (show j < 2147483648 by omega), d_nn (show k < 2147483648 by omega), h4, decide_true, Bool.true_and, d_i1]
        cases d_ms K F B i' j k <;> rfl
theorem d_div3 {m : Nat} (h : m ≤ 100) : Int32.ofNat m / Int32.ofInt 3 * Int32.ofInt 3 = Int32.ofNat (3 * (m / 3)) :=
  (show ∀ m, m < 101 → Int32.ofNat m / Int32.ofInt 3 * Int32.ofInt 3 = Int32.ofNat (3 * (m / 3)) by decide +kernel) m (by omega)
theorem d_mod3 {m : Nat} (h : m ≤ 100) : (Int32.ofNat m - Int32.ofNat m / Int32.ofInt 3 * Int32.ofInt 3 = 0) = (m % 3 = 0) :=
  (show ∀ m, m < 101 → (decide (Int32.ofNat m - Int32.ofNat m / Int32.ofInt 3 * Int32.ofInt 3 = 0) = decide (m % 3 = 0)) by decide +kernel) m (by omega) |> fun e => propext (decide_eq_decide.mp e)
theorem d_su3 (k : Nat) : Int32.ofNat (3 * k) + Int32.ofInt 3 = Int32.ofNat (3 * (k + 1)) := by
  rw [show Int32.ofInt 3 = Int32.ofNat 3 from rfl, d_ad]; congr 1
theorem sD_judge (a ma : Nat) : S_judge (d_R a ma) a ma := fun X M n p1 hR => d_readS a ma (fun s => f10_judge s a p1) (fun s => f11_judge s ma p1) (by
  intro X M nx hR
  obtain ⟨hi, hX, ha, ⟨th, po, ba, en, lt, lp, sd, hM⟩, ⟨P, K, F, n, lw, B, S, ⟨L, hB, hP⟩, hG, hS0, hS⟩, -, -, PS, RS, c, kp, so, sz, el, kk, kf, ⟨s1, s2⟩, ⟨t1, t2, t3, t4, t5, t6⟩, sh, -⟩ := hR
  have hn : n ≤ 8 := L.2.2
  have eX := d_cB_e hB
  have w3 : ∀ p q r, f2_wrongOfThree (X, nx) (a + 2) p q r = some (if d_w3 n K F B p q r = 3 then Int32.ofInt (-1) else Int32.ofNat (d_w3 n K F B p q r)) := fun p q r => by
    have := x_w3 (nx := nx) L hG.1 p q r
    rwa [eX] at this
  have oc : ∀ {α : Type} (x : Option α), ocl (X, nx) (a + 2) 2 x = x := fun x => d_ocl (d_hcls (σ := (X, nx)) L.1.1) x
  cases e : d_is 8 p1 with
  | false =>
    refine ⟨Int32.ofInt (-1), ?_, fun k => ?_⟩
    · show f10_judge _ _ _ = _
      unfold f10_judge
      simp only [c_c hX, x_row0 e, obd, onl, x_why0 e]
    · show f11_judge _ _ _ = _
      unfold f11_judge
      simp only [n_c hM, m_wrongRow0 e, obd]
      rfl
  | true =>
    obtain ⟨d, hd, rfl⟩ := d_is_n e
    rcases d_SH_RW (sh d hd) with ⟨b1, b2, b3⟩ | ⟨b1, b2, q, k, f, b3, b4, b5, b6, b7⟩ | ⟨b1, b2, r, t, m, g, b3, b4, b5, b6, b7, b8⟩
    · refine ⟨(Int8.ofInt (-11)).toInt32, ?_, fun k => ?_⟩
      · show f10_judge _ _ _ = _
        unfold f10_judge
        simp only [c_c hX, x_rowOn hX s2 hd, obd, onl, va_rf, b3, x_why hX s1 s2 hd, b2]
        rfl
      · show f11_judge _ _ _ = _
        unfold f11_judge
        simp only [n_c hM, m_wrongRow hM t1 t2 hd, obd, b1]
        rfl
    · refine ⟨(Int8.ofInt (-12)).toInt32, ?_, fun k => ?_⟩
      · show f10_judge _ _ _ = _
        unfold f10_judge
        simp only [c_c hX, x_rowOn hX s2 hd, obd, onl, va_rf, b2, x_why hX s1 s2 hd, b3]
        rfl
      · show f11_judge _ _ _ = _
        unfold f11_judge
        simp only [n_c hM, m_wrongRow hM t1 t2 hd, obd, b1]
        rfl
    · have hm := b5.2.2.1
      let w : Nat → Nat := fun k => d_w3 n K F B (g (3 * k)) (g (3 * k + 1)) (g (3 * k + 2))
      obtain ⟨rx, x1, x2⟩ := d_it (step := f10_judge_L28 (X, nx) a r (Int32.ofNat (3 * (m / 3)))) (fun k v => v = Int32.ofNat (3 * k) ∧ ∀ j, j < k → w j = 3) (fun q => (q = .inr () ∧ ∀ j, j < m / 3 → w j = 3) ∨ ∃ k, k < m / 3 ∧ (∀ j, j < k → w j = 3) ∧ w k ≠ 3 ∧ q = .inl (Int32.ofNat (3 * k + w k))) (m / 3) (by
          rintro k v hk ⟨rfl, hw⟩
          unfold f10_judge_L28
          simp only [d_lef (show 3 * k < 3 * (m / 3) by omega) (by omega), if_false, c_now hX, obd, orf, r_c b5, d_su, show Int32.ofNat (3 * k) + Int32.ofInt 2 = Int32.ofNat (3 * k + 2) from d_102 _ 2 (by omega), r_at b5, d_is_i (show 3 * k < m by omega) (by omega), d_is_i (show 3 * k + 1 < m by omega) (by omega), d_is_i (show 3 * k + 2 < m by omega) (by omega), if_true, d_nn (show 3 * k < 2147483648 by omega), d_nn (show 3 * k + 1 < 2147483648 by omega), d_nn (show 3 * k + 2 < 2147483648 by omega), oc, w3, d_su3]
          have hw4 := d_w3_le n K F B (g (3 * k)) (g (3 * k + 1)) (g (3 * k + 2))
          by_cases c : w k = 3
          · rw [if_pos (show d_w3 n K F B (g (3 * k)) (g (3 * k + 1)) (g (3 * k + 2)) = 3 from c), if_pos (by decide)]
            exact Or.inl ⟨_, rfl, rfl, fun j hj => by
              by_cases z : j = k
              · rw [z]; exact c
              · exact hw j (by omega)⟩
          · rw [if_neg (show ¬ d_w3 n K F B (g (3 * k)) (g (3 * k + 1)) (g (3 * k + 2)) = 3 from c), if_neg (by rw [Int32.lt_iff_toInt_lt, d_tn (by omega), d_z0]; omega), d_ad]
            exact Or.inr ⟨_, rfl, Or.inr ⟨k, hk, hw, c, rfl⟩⟩) (by
          rintro v ⟨rfl, hw⟩
          unfold f10_judge_L28
          simp only [d_let, if_true]
          exact ⟨_, rfl, Or.inl ⟨rfl, hw⟩⟩) FU 0 (Int32.ofInt 0) (by omega) (by unfold FU; omega) ⟨rfl, fun j hj => by omega⟩
      have fx : ∀ res, rx = .inl res ∨ (rx = .inr () ∧ res = if m ≤ 3 * (m / 3) then (Int8.ofInt (-4)).toInt32 else Int32.ofNat (3 * (m / 3))) → f10_judge (X, nx) a (Int32.ofNat d) = some res := by
        intro res hres
        unfold f10_judge
        simp only [c_c hX, x_rowOn hX s2 hd, obd, onl, va_rf, b3, r_c b5, r_size b5, d_div3 hm, x1, onz, if_neg (show ¬ Int32.ofInt 3 = 0 by decide)]
        rcases hres with rfl | ⟨rfl, rfl⟩
        · rfl
        · simp only [osm, d_le (show m < 2147483648 by omega) (show 3 * (m / 3) < 2147483648 by omega)]
          by_cases c : m ≤ 3 * (m / 3)
          · rw [if_pos c, if_pos c]
          · rw [if_neg c, if_neg c]
      have fm : ∀ res, rx = .inl res ∨ (rx = .inr () ∧ res = if m ≤ 3 * (m / 3) then (Int8.ofInt (-4)).toInt32 else Int32.ofNat (3 * (m / 3))) → ∀ k, f11_judge (M, k) ma (Int32.ofNat d) = some res := by
        intro res hres k
        obtain ⟨rm, y1, y2⟩ := d_it (step := f11_judge_L19 (M, k) ma (Int32.ofNat d)) (fun k v => (v = ((Int8.ofInt (-4)).toInt32, Int32.ofNat (3 * k)) ∧ ∀ j, j < k → w j = 3) ∨ ∃ q, q + 1 = k ∧ (∀ j, j < q → w j = 3) ∧ w q ≠ 3 ∧ v = (Int32.ofNat (3 * q + w q), Int32.ofNat (3 * k))) (fun o => (o = ((Int8.ofInt (-4)).toInt32, Int32.ofNat (3 * (m / 3))) ∧ ∀ j, j < m / 3 → w j = 3) ∨ ∃ q z, q < m / 3 ∧ (∀ j, j < q → w j = 3) ∧ w q ≠ 3 ∧ o = (Int32.ofNat (3 * q + w q), z)) (m / 3) (by
            rintro q v hq (⟨rfl, hw⟩ | ⟨p, hp, hw, hwp, rfl⟩)
            · unfold f11_judge_L19
              simp only [n_6 hM, obd, orf, d_ild M t3 hd (by omega), b7, show Int32.ofNat (3 * q) + Int32.ofInt 2 = Int32.ofNat (3 * q + 2) from d_102 _ 2 (by omega), d_lef (show 3 * q + 2 < m by omega) (by omega), if_false, if_neg (show ¬ 0 ≤ (Int8.ofInt (-4)).toInt32 by decide), n_c hM, m_w3 hM t4 hS0 hS hn (d_LX_KF L) hG.1 hd (show 3 * q + 2 < 100 by omega), d_su3]
              rw [← b8 (3 * q) (by omega), ← b8 (3 * q + 1) (by omega), ← b8 (3 * q + 2) (by omega)]
              by_cases c : w q = 3
              · rw [if_pos (show d_w3 n K F B (g (3 * q)) (g (3 * q + 1)) (g (3 * q + 2)) = 3 from c)]
                exact Or.inl ⟨_, rfl, Or.inl ⟨rfl, fun j hj => by
                  by_cases z : j = q
                  · rw [z]; exact c
                  · exact hw j (by omega)⟩⟩
              · rw [if_neg (show ¬ d_w3 n K F B (g (3 * q)) (g (3 * q + 1)) (g (3 * q + 2)) = 3 from c)]
                exact Or.inl ⟨_, rfl, Or.inr ⟨q, rfl, hw, c, rfl⟩⟩
            · have hw4 := d_w3_le n K F B (g (3 * p)) (g (3 * p + 1)) (g (3 * p + 2))
              have hw5 : w p ≤ 3 := hw4
              unfold f11_judge_L19
              simp only [n_6 hM, obd, orf, d_ild M t3 hd (by omega), b7, show Int32.ofNat (3 * q) + Int32.ofInt 2 = Int32.ofNat (3 * q + 2) from d_102 _ 2 (by omega), d_lef (show 3 * q + 2 < m by omega) (by omega), if_false]
              rw [if_pos (by rw [Int32.le_iff_toInt_le, d_tn (by omega), d_z0]; omega)]
              exact Or.inr ⟨_, rfl, Or.inr ⟨p, _, by omega, hw, hwp, rfl⟩⟩) (by
            rintro v (⟨rfl, hw⟩ | ⟨p, hp, hw, hwp, rfl⟩)
            · unfold f11_judge_L19
              simp only [n_6 hM, obd, orf, d_ild M t3 hd (by omega), b7, show Int32.ofNat (3 * (m / 3)) + Int32.ofInt 2 = Int32.ofNat (3 * (m / 3) + 2) from d_102 _ 2 (by omega)]
              rw [if_pos (by rw [d_le (by omega) (by omega)]; omega)]
              exact ⟨_, rfl, Or.inl ⟨rfl, hw⟩⟩
            · unfold f11_judge_L19
              simp only [n_6 hM, obd, orf, d_ild M t3 hd (by omega), b7, show Int32.ofNat (3 * (m / 3)) + Int32.ofInt 2 = Int32.ofNat (3 * (m / 3) + 2) from d_102 _ 2 (by omega)]
              rw [if_pos (by rw [d_le (by omega) (by omega)]; omega)]
              exact ⟨_, rfl, Or.inr ⟨p, _, by omega, hw, hwp, rfl⟩⟩) FU 0 ((Int8.ofInt (-4)).toInt32, Int32.ofInt 0) (by omega) (by unfold FU; omega) (Or.inl ⟨rfl, fun j hj => by omega⟩)
        unfold f11_judge
        simp only [n_c hM, m_wrongRow hM t1 t2 hd, obd, b1, if_neg (show ¬ (2 : Int32) = 0 by decide), if_pos (show (2 : Int32) = Int32.ofInt 2 from rfl), if_pos (show Int32.ofInt (-1) < 0 by decide), y1]
        rw [if_pos (show Int32.ofInt 0 = 0 from rfl)]
        rcases y2 with ⟨rfl, hw⟩ | ⟨q, z, hq, hw, hwq, rfl⟩
        · have hr : rx = .inr () := by
            rcases x2 with ⟨h, -⟩ | ⟨q, hq, -, hwq, -⟩
            · exact h
            · exact absurd (hw q hq) hwq
          have hres2 : res = if m ≤ 3 * (m / 3) then (Int8.ofInt (-4)).toInt32 else Int32.ofNat (3 * (m / 3)) := by
            rcases hres with h | h
            · rw [hr] at h; cases h
            · exact h.2
          simp only [if_neg (show ¬ 0 ≤ (Int8.ofInt (-4)).toInt32 by decide), n_6 hM, orf, d_ild M t3 hd (by omega), b7, onz, if_neg (show ¬ Int32.ofInt 3 = 0 by decide), d_mod3 hm]
          rw [hres2]
          by_cases c : m % 3 = 0
          · rw [if_pos c, if_pos (by omega)]
          · rw [if_neg c, if_neg (by omega)]
        · have hr : rx = .inl (Int32.ofNat (3 * q + w q)) := by
            rcases x2 with ⟨h, hw'⟩ | ⟨q', hq', hw', hwq', h⟩
            · exact absurd (hw' q hq) hwq
            · have : q' = q := by
                rcases Nat.lt_trichotomy q q' with z | z | z
                · exact absurd (hw' q z) hwq
                · exact z.symm
                · exact absurd (hw q' z) hwq'
              rw [h, this]
          have hw5 : w q ≤ 3 := d_w3_le n K F B (g (3 * q)) (g (3 * q + 1)) (g (3 * q + 2))
          simp only
          rw [if_pos (by rw [Int32.le_iff_toInt_le, d_tn (by omega), d_z0]; omega)]
          rcases hres with h | h
          · rw [hr] at h; cases h; rfl
          · rw [hr] at h; cases h.1
      rcases hrx : rx with res | u
      · exact ⟨res, fx res (Or.inl hrx), fm res (Or.inl hrx)⟩
      · exact ⟨_, fx _ (Or.inr ⟨hrx, rfl⟩), fm _ (Or.inr ⟨hrx, rfl⟩)⟩) X M n hR
