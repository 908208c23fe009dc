/-! PURE: shelves that are read: price, toss, element, judge -/
theorem d_ild (X : Nat → Option HO) {nx q i m : Nat} {f : Nat → Int32} (h : X q = d_A m f) (hi : i < m) (hm : m ≤ 1000) : hald (X, nx) q (Int32.ofNat i) = some (f i) := d_ald (σ := (X, nx)) h hi hm
theorem x_isShelf (p : Int32) : f10_isShelf p = some (d_i (d_is 8 p)) := by
  unfold f10_isShelf d_is
  have e8 : ((Int8.ofInt 8).toInt32).toInt = 8 := by decide
  by_cases h1 : p < 0
  · rw [if_pos h1, decide_eq_false]; rfl
    have := Int32.lt_iff_toInt_lt.mp h1
    rw [show (0 : Int32).toInt = 0 from rfl] at this
    omega
  · rw [if_neg h1]
    rw [Int32.lt_iff_toInt_lt, show (0 : Int32).toInt = 0 from rfl] at h1
    by_cases h2 : (Int8.ofInt 8).toInt32 ≤ p
    · rw [if_pos h2, decide_eq_false]; rfl
      rw [Int32.le_iff_toInt_le, e8] at h2
      omega
    · rw [if_neg h2, decide_eq_true]; rfl
      rw [Int32.le_iff_toInt_le, e8] at h2
      omega
theorem m_isShelf (p : Int32) : f11_isShelf p = some (d_i (d_is 8 p)) := by
  unfold f11_isShelf d_is
  simp only [isIn_e, obd]
  rw [Int32.toInt_toInt64, show (Int64.ofNat 0).toInt = 0 by decide, show (7 : Int64).toInt = 7 by decide, d_i_if, d_isB]
  simp only [ogd]
  congr 3
  apply propext
  omega
theorem d_rf_isR (o : Option Nat) : isR (va_rf o) = true := by cases o <;> rfl
section SHELF
variable {X : Nat → Option HO} {a nx : Nat} {hi : Int32} {PS RS : Nat → Option Nat}
theorem c_5 (h : d_CX X a hi) : hfld (X, nx) [10] 5 a = some (.ref (a + 11)) := c_f h
theorem c_6 (h : d_CX X a hi) : hfld (X, nx) [10] 6 a = some (.ref (a + 12)) := c_f h
theorem d_rld {q i : Nat} {b : Bool} {f : Nat → Option Nat} (h : X q = some (.inr (.inr (b, 8, f)))) (hi : i < 8) : hrld (X, nx) q (Int32.ofNat i) = some (va_rf (f i)) := by
  unfold hrld hra
  simp only [h, d_inb hi (show 8 ≤ 1000 by omega), if_true, d_nn (show i < 2147483648 by omega)]
theorem x_personOn (hX : d_CX X a hi) (h : X (a + 11) = some (.inr (.inr (false, 8, PS)))) {i : Nat} (hi : i < 8) : f10_personOn (X, nx) a (Int32.ofNat i) = some (va_rf (PS i)) := by
  unfold f10_personOn
  simp only [x_isShelf, d_is_i hi (by omega), obd, d_i0, if_neg (show ¬ true = false by simp), c_5 hX, orf, d_rld h hi, d_rf_isR, ogd]
theorem x_rowOn (hX : d_CX X a hi) (h : X (a + 12) = some (.inr (.inr (true, 8, RS)))) {i : Nat} (hi : i < 8) : f10_rowOn (X, nx) a (Int32.ofNat i) = some (va_rf (RS i)) := by
  unfold f10_rowOn
  simp only [x_isShelf, d_is_i hi (by omega), obd, d_i0, if_neg (show ¬ true = false by simp), c_6 hX, orf, d_rld h hi, d_rf_isR, ogd]
theorem x_isBare (hX : d_CX X a hi) (h : X (a + 11) = some (.inr (.inr (false, 8, PS)))) (h2 : X (a + 12) = some (.inr (.inr (true, 8, RS)))) {i : Nat} (hi : i < 8) : f10_isBare (X, nx) a (Int32.ofNat i) = some (d_i ((PS i).isNone && (RS i).isNone)) := by
  unfold f10_isBare
  simp only [c_c hX, x_personOn hX h hi, x_rowOn hX h2 hi, obd]
  cases PS i <;> cases RS i <;> rfl
theorem x_why (hX : d_CX X a hi) (h : X (a + 11) = some (.inr (.inr (false, 8, PS)))) (h2 : X (a + 12) = some (.inr (.inr (true, 8, RS)))) {i : Nat} (hi : i < 8) : f10_whyNotOn (X, nx) a (Int32.ofNat i) = some (if ((PS i).isNone && (RS i).isNone) = true then (Int8.ofInt (-11)).toInt32 else (Int8.ofInt (-12)).toInt32) := by
  unfold f10_whyNotOn
  simp only [x_isShelf, d_is_i hi (by omega), obd, d_i0, if_neg (show ¬ true = false by simp), c_c hX, x_isBare hX h h2 hi]
  cases ((PS i).isNone && (RS i).isNone) <;> rfl
theorem x_why0 {p : Int32} (h : d_is 8 p = false) : f10_whyNotOn (X, nx) a p = some (Int32.ofInt (-1)) := by
  unfold f10_whyNotOn
  simp only [x_isShelf, h, obd, d_i0, if_true]
theorem x_person0 {p : Int32} (h : d_is 8 p = false) : f10_personOn (X, nx) a p = some .null := by
  unfold f10_personOn
  simp only [x_isShelf, h, obd, d_i0, if_true]
theorem x_row0 {p : Int32} (h : d_is 8 p = false) : f10_rowOn (X, nx) a p = some .null := by
  unfold f10_rowOn
  simp only [x_isShelf, h, obd, d_i0, if_true]
end SHELF
section MSHELF
variable {M : Nat → Option HO} {ma nx : Nat} {hi th po ba en lt lp sd : Int32} {kp so sz el kk kf : Nat → Int32}
theorem n_f {k : Nat} (h : d_MO M ma hi th po ba en lt lp sd) : hfld (M, nx) [11] k ma = ([.ref (ma + 1), .ref (ma + 2), .ref (ma + 3), .ref (ma + 4), .ref (ma + 5), .ref (ma + 6), .ref (ma + 7), .ref (ma + 8), .ref (ma + 9), .ref (ma + 10), .int hi, .int th, .int po, .int ba, .int en, .ref (ma + 11), .int lt, .int lp, .int sd] : List Value)[k]? := d_hfld (σ := (M, nx)) h rfl
theorem n_c {α : Type} (h : d_MO M ma hi th po ba en lt lp sd) (x : Option α) : ocl (M, nx) ma 11 x = x := d_ocl (d_hcls (σ := (M, nx)) h) x
theorem n_4 (h : d_MO M ma hi th po ba en lt lp sd) : hfld (M, nx) [11] 4 ma = some (.ref (ma + 5)) := n_f h
theorem n_5 (h : d_MO M ma hi th po ba en lt lp sd) : hfld (M, nx) [11] 5 ma = some (.ref (ma + 6)) := n_f h
theorem n_6 (h : d_MO M ma hi th po ba en lt lp sd) : hfld (M, nx) [11] 6 ma = some (.ref (ma + 7)) := n_f h
theorem n_7 (h : d_MO M ma hi th po ba en lt lp sd) : hfld (M, nx) [11] 7 ma = some (.ref (ma + 8)) := n_f h
theorem n_8 (h : d_MO M ma hi th po ba en lt lp sd) : hfld (M, nx) [11] 8 ma = some (.ref (ma + 9)) := n_f h
theorem n_9 (h : d_MO M ma hi th po ba en lt lp sd) : hfld (M, nx) [11] 9 ma = some (.ref (ma + 10)) := n_f h
theorem m_wrongKept (h : d_MO M ma hi th po ba en lt lp sd) (h5 : M (ma + 5) = d_A 8 kp) {i : Nat} (hi : i < 8) : f11_wrongKept (M, nx) ma (Int32.ofNat i) = some (if kp i = 0 then (Int8.ofInt (-11)).toInt32 else if kp i = Int32.ofInt 1 then Int32.ofInt 0 else (Int8.ofInt (-12)).toInt32) := by
  unfold f11_wrongKept
  simp only [m_isShelf, d_is_i hi (by omega), obd, d_i0, if_neg (show ¬ true = false by simp), n_4 h, orf, d_ild M h5 hi (by omega)]
  by_cases e : kp i = 0
  · rw [if_pos e, if_pos e]
  · rw [if_neg e, if_neg e]
    by_cases e1 : kp i = Int32.ofInt 1
    · rw [if_pos e1, if_pos e1]
    · rw [if_neg e1, if_neg e1]
theorem m_wrongKept0 {p : Int32} (h : d_is 8 p = false) : f11_wrongKept (M, nx) ma p = some (Int32.ofInt (-1)) := by
  unfold f11_wrongKept
  simp only [m_isShelf, h, obd, d_i0, if_true]
theorem m_wrongRow (h : d_MO M ma hi th po ba en lt lp sd) (h5 : M (ma + 5) = d_A 8 kp) (h6 : M (ma + 6) = d_A 8 so) {i : Nat} (hi : i < 8) (q : Int32) : f11_wrongRow (M, nx) ma (Int32.ofNat i) q = some (if kp i = 0 then (Int8.ofInt (-11)).toInt32 else if kp i = Int32.ofInt 2 then (if q < 0 then Int32.ofInt 0 else if so i = q then Int32.ofInt 0 else (Int8.ofInt (-12)).toInt32) else (Int8.ofInt (-12)).toInt32) := by
  unfold f11_wrongRow
  simp only [m_isShelf, d_is_i hi (by omega), obd, d_i0, if_neg (show ¬ true = false by simp), n_4 h, n_5 h, orf, d_ild M h5 hi (by omega), d_ild M h6 hi (by omega)]
  repeat' split
  all_goals first | rfl | contradiction
theorem m_wrongRow0 {p q : Int32} (h : d_is 8 p = false) : f11_wrongRow (M, nx) ma p q = some (Int32.ofInt (-1)) := by
  unfold f11_wrongRow
  simp only [m_isShelf, h, obd, d_i0, if_true]
end MSHELF
section ROW
variable {X : Nat → Option HO} {r c t m nx : Nat} {g : Nat → Int32}
def d_RW (X : Nat → Option HO) (r c t m : Nat) (g : Nat → Int32) : Prop := X r = some (.inl (8, [.int (Int32.ofNat t), .ref c])) ∧ X c = d_A m g ∧ m ≤ 100 ∧ t < 3
theorem r_1 (h : d_RW X r c t m g) : hfld (X, nx) [8] 1 r = some (.ref c) := by rw [d_hfld (σ := (X, nx)) h.1 rfl]; rfl
theorem r_0 (h : d_RW X r c t m g) : hfi (X, nx) [8] 0 r = some (Int32.ofNat t) := d_hfi (σ := (X, nx)) h.1 rfl rfl
theorem r_c {α : Type} (h : d_RW X r c t m g) (x : Option α) : ocl (X, nx) r 8 x = x := d_ocl (d_hcls (σ := (X, nx)) h.1) x
theorem r_len (h : d_RW X r c t m g) : hlen (X, nx) c = some (Int32.ofNat m) := by
  unfold hlen
  simp only [h.2.1]
theorem r_size (h : d_RW X r c t m g) : f8_size (X, nx) r = some (Int32.ofNat m) := by
  unfold f8_size
  simp only [r_1 h, obd, orf, r_len h]
def d_pl (m : Nat) (p q : Int32) : Bool := decide (0 ≤ p.toInt ∧ 0 ≤ q.toInt ∧ q.toInt ≤ m ∧ p.toInt ≤ m - q.toInt)
theorem d_z0 : (0 : Int32).toInt = 0 := by decide
theorem r_places (h : d_RW X r c t m g) (p q : Int32) : f8_hasPlaces (X, nx) r p q = some (d_i (d_pl m p q)) := by
  have hm := h.2.2.1
  unfold f8_hasPlaces d_pl
  by_cases h1 : p < 0
  · rw [if_pos h1, decide_eq_false]; rfl
    rw [Int32.lt_iff_toInt_lt, d_z0] at h1
    omega
  · rw [if_neg h1]
    rw [Int32.lt_iff_toInt_lt, d_z0] at h1
    by_cases h2 : q < 0
    · rw [if_pos h2, decide_eq_false]; rfl
      rw [Int32.lt_iff_toInt_lt, d_z0] at h2
      omega
    · rw [if_neg h2]
      rw [Int32.lt_iff_toInt_lt, d_z0] at h2
      simp only [r_1 h, obd, orf, r_len h]
      by_cases h3 : Int32.ofNat m < q
      · rw [if_pos h3, decide_eq_false]; rfl
        rw [Int32.lt_iff_toInt_lt, d_tn (by omega)] at h3
        omega
      · rw [if_neg h3]
        rw [Int32.lt_iff_toInt_lt, d_tn (by omega)] at h3
        have e : (Int32.ofNat m - q).toInt = m - q.toInt := by
          have hq : q = Int32.ofNat q.toInt.toNat := by rw [← Int32.toInt_inj, d_tn (by omega)]; omega
          rw [hq, ← Int32.ofNat_sub m _ (by omega), d_tn (by omega), d_tn (by omega)]
          omega
        by_cases h4 : Int32.ofNat m - q < p
        · rw [if_pos h4, decide_eq_false]; rfl
          rw [Int32.lt_iff_toInt_lt, e] at h4
          omega
        · rw [if_neg h4, decide_eq_true]; rfl
          rw [Int32.lt_iff_toInt_lt, e] at h4
          omega
theorem d_pl1 (m : Nat) (p : Int32) : d_pl m p (Int32.ofInt 1) = d_is m p := by
  unfold d_pl d_is
  rw [show (Int32.ofInt 1).toInt = 1 by decide]
  congr 1
  apply propext
  omega
theorem r_at (h : d_RW X r c t m g) (p : Int32) : f8_at (X, nx) r p = some (if d_is m p = true then g p.toNatClampNeg else Int32.ofInt (-1)) := by
  have hm := h.2.2.1
  unfold f8_at
  simp only [r_c h, r_places h, d_pl1, obd, d_i0]
  cases e : d_is m p with
  | false => rfl
  | true =>
    obtain ⟨i, hi, rfl⟩ := d_is_n e
    simp only [r_1 h, orf, d_ild X h.2.1 hi (show m ≤ 1000 by omega), d_nn (show i < 2147483648 by omega), if_neg (show ¬ true = false by simp), if_true]
end ROW
theorem d_SH_RW {a nx : Nat} {X : Nat → Option HO} {kp so sz el kk kf : Nat → Int32} {d : Nat} {po ro : Option Nat} {c : Nat} (h : d_SH a nx X kp so sz el kk kf d po ro c) :
  (kp d = 0 ∧ po = none ∧ ro = none) ∨ (kp d = 1 ∧ ro = none ∧ ∃ q k f, po = some q ∧ d_ok a nx q ∧ d_PE X q k f ∧ kk d = Int32.ofNat k ∧ kf d = Int32.ofNat f) ∨ (kp d = 2 ∧ po = none ∧ ∃ r t m g, ro = some r ∧ (a + 14 ≤ r ∧ r < nx ∧ a + 14 ≤ c ∧ c < nx) ∧ d_RW X r c t m g ∧ so d = Int32.ofNat t ∧ sz d = Int32.ofNat m ∧ ∀ i, i < m → g i = el (100 * d + i)) := by
  rcases h with h | h | ⟨b1, b2, r, t, m, g, b3, b4, b5, b6, b7, b8, b9, b10, b11, b12, b13, b14⟩
  · exact Or.inl h
  · exact Or.inr (Or.inl h)
  · exact Or.inr (Or.inr ⟨b1, b2, r, t, m, g, b3, ⟨b4, b5, b6, b7⟩, ⟨b8, b9, b10, b11⟩, b12, b13, b14⟩)
/-- calls that only read: league and shelves -/
theorem d_readS {α : Type} (a ma : Nat) (fx fm : HM → Option α) (h : ∀ (X M : Nat → Option HO) (nx : Nat), d_R a ma X M nx → ∃ r, fx (X, nx) = some r ∧ ∀ k, fm (M, k) = some r) (X M : Nat → Option HO) (n : Nat) (hR : d_R a ma X M n) :
    ∃ (r : α) (X' : Nat → Option HO) (n' : Nat) (M' : Nat → Option HO) (n'' : Nat), obd (fx (X, n)) (fun r => some (r, ((X, n) : HM))) = some (r, (X', n')) ∧ obd (fm (M, n')) (fun r => some (r, ((M, n') : HM))) = some (r, (M', n'')) ∧ d_R a ma X' M' n'' := by
  obtain ⟨r, h1, h2⟩ := h X M n hR
  exact ps_step (f := fx (X, n)) (g := fun k => fm (M, k)) h1 h2 hR
theorem sD_price (a ma : Nat) : S_price (d_R a ma) a ma := fun X M n p1 hR => d_readS a ma (fun s => f10_price s a p1) (fun s => f11_price s ma p1) (by
  intro X M nx hR
  obtain ⟨hi, hX, ha, ⟨th, po, ba, en, lt, lp, sd, hM⟩, -, -, -, PS, RS, c, kp, so, sz, el, kk, kf, ⟨s1, s2⟩, ⟨t1, t2, t3, t4, t5, t6⟩, sh, -⟩ := hR
  cases e : d_is 8 p1 with
  | false =>
    refine ⟨Int32.ofInt (-1), ?_, fun k => ?_⟩
    · show f10_price _ _ _ = _
      unfold f10_price
      simp only [c_c hX, x_person0 e, obd, onl, x_why0 e]
    · show f11_price _ _ _ = _
      unfold f11_price
      simp only [n_c hM, m_wrongKept0 e, obd]
      rfl
  | true =>
    obtain ⟨d, hd, rfl⟩ := d_is_n e
    rcases d_SH_RW (sh d hd) with ⟨b1, b2, b3⟩ | ⟨b1, b2, q, k, f, b3, b4, b5, b6, b7⟩ | ⟨b1, b2, r, t, m, g, b3, b4, b5, b6, b7, b8⟩
    · refine ⟨(Int8.ofInt (-11)).toInt32, ?_, fun k => ?_⟩
      · show f10_price _ _ _ = _
        unfold f10_price
        simp only [c_c hX, x_personOn hX s1 hd, obd, onl, va_rf, b2, x_why hX s1 s2 hd, b3]
        rfl
      · show f11_price _ _ _ = _
        unfold f11_price
        simp only [n_c hM, m_wrongKept hM t1 hd, obd, b1]
        rfl
    · refine ⟨Int32.ofNat (d_price k f), ?_, fun k => ?_⟩
      · show f10_price _ _ _ = _
        unfold f10_price
        simp only [c_c hX, x_personOn hX s1 hd, obd, onl, va_rf, b3, d_vcost b5]
      · show f11_price _ _ _ = _
        unfold f11_price
        simp only [n_c hM, m_wrongKept hM t1 hd, obd, b1, n_8 hM, n_9 hM, orf, d_ild M t5 hd (by omega), d_ild M t6 hd (by omega), b6, b7, d_mprice b5.2.1 b5.2.2]
        rfl
    · refine ⟨(Int8.ofInt (-12)).toInt32, ?_, fun k => ?_⟩
      · show f10_price _ _ _ = _
        unfold f10_price
        simp only [c_c hX, x_personOn hX s1 hd, obd, onl, va_rf, b2, x_why hX s1 s2 hd, b3]
        rfl
      · show f11_price _ _ _ = _
        unfold f11_price
        simp only [n_c hM, m_wrongKept hM t1 hd, obd, b1]
        rfl) X M n hR
def d_fail (k f : Nat) : Int32 := if k = 2 then (Int8.ofInt (-15)).toInt32 else if f = 0 then (Int8.ofInt (-15)).toInt32 else if k = 5 then Int32.ofNat (100 + f) else if k = 6 then Int32.ofNat (200 + d_price k f) else Int32.ofNat f
theorem x_toss {X : Nat → Option HO} {q k f nx : Nat} (h : d_PE X q k f) : obd (v_fail (X, nx) q) (fun fl => oft fl (some ((Int8.ofInt (-15)).toInt32)) (obd (v_cost (X, nx) q) (fun v => some ((Int16.ofInt 200).toInt32 + v))) (obd (hfi (X, nx) sP 0 q) (fun v => some ((Int8.ofInt 100).toInt32 + v))) (obd (hfi (X, nx) sP 0 q) (fun v => some v))) = some (d_fail k f) := by
  have hc := d_pe_c (nx := nx) h
  have hi := d_pe_f (nx := nx) h
  rw [d_vcost h]
  obtain ⟨-, hk, hf⟩ := h
  generalize ((X, nx) : HM) = s at hc hi ⊢
  rcases d_kcases hk with rfl | rfl | rfl | rfl | rfl | rfl | rfl | rfl <;> (simp only [d_kc] at hc; simp only [v_fail, hc, hi, obd]; clear hc hi; revert f; decide +kernel)
theorem m_toss {k f : Nat} (hk : k < 8) (hf : f < 10) : (if Int32.ofNat k = (Int32.ofInt 2) then (some ((Int8.ofInt (-15)).toInt32)) else (if Int32.ofNat f = 0 then (some ((Int8.ofInt (-15)).toInt32)) else (if Int32.ofNat k = (Int32.ofInt 5) then (some (((Int8.ofInt 100).toInt32) + Int32.ofNat f)) else (if Int32.ofNat k = ((Int8.ofInt 6).toInt32) then (obd (f11_priceBy (Int32.ofNat k) (Int32.ofNat f)) (fun v15 => some (((Int16.ofInt 200).toInt32) + v15))) else (some (Int32.ofNat f)))))) = some (d_fail k f) := by
  revert f
  revert k
  decide +kernel
theorem sD_toss (a ma : Nat) : S_toss (d_R a ma) a ma := by
  intro X M nx p1 hR
  have hR0 := hR
  obtain ⟨hi, hX, ha, ⟨th, po, ba, en, lt, lp, sd, hM⟩, b4, b5, b6, PS, RS, c, kp, so, sz, el, kk, kf, ⟨s1, s2⟩, ⟨t1, t2, t3, t4, t5, t6⟩, sh, s3⟩ := hR0
  have hRk : ∀ n1, nx ≤ n1 → d_R a ma X M n1 := fun n1 h1 => d_R_now hR h1 (fun q _ _ => rfl) (fun q _ => rfl) (d_RN_fr b4 h1 (fun q _ => rfl) rfl rfl rfl (fun S n K F B lw g1 _ g2 => ⟨S, g1, g2⟩))
  suffices ∃ r, f10_toss (X, nx) a p1 = some r ∧ ∀ k, f11_toss (M, k) ma p1 = some r by
    obtain ⟨r, h1, h2⟩ := this
    exact ⟨r, h1, fun n1 h3 => ⟨h2 n1, hRk n1 h3⟩⟩
  cases e : d_is 8 p1 with
  | false =>
    refine ⟨Int32.ofInt (-1), ?_, fun k => ?_⟩
    · unfold f10_toss
      simp only [c_c hX, x_person0 e, obd, onl, x_why0 e]
    · unfold f11_toss
      simp only [n_c hM, m_wrongKept0 e, obd]
      rfl
  | true =>
    obtain ⟨d, hd, rfl⟩ := d_is_n e
    rcases d_SH_RW (sh d hd) with ⟨b1, b2, b3⟩ | ⟨b1, b2, q, k, f, b3, b4, b5, b6, b7⟩ | ⟨b1, b2, r, t, m, g, b3, b4, b5, b6, b7, b8⟩
    · refine ⟨(Int8.ofInt (-11)).toInt32, ?_, fun k => ?_⟩
      · unfold f10_toss
        simp only [c_c hX, x_personOn hX s1 hd, obd, onl, va_rf, b2, x_why hX s1 s2 hd, b3]
        rfl
      · unfold f11_toss
        simp only [n_c hM, m_wrongKept hM t1 hd, obd, b1]
        rfl
    · refine ⟨d_fail k f, ?_, fun k => ?_⟩
      · unfold f10_toss
        rw [c_c hX, x_personOn hX s1 hd, b3]
        exact x_toss b5
      · unfold f11_toss
        simp only [n_c hM, m_wrongKept hM t1 hd, obd, b1, n_8 hM, n_9 hM, orf, d_ild M t5 hd (by omega), d_ild M t6 hd (by omega), b6, b7]
        exact m_toss b5.2.1 b5.2.2
    · refine ⟨(Int8.ofInt (-12)).toInt32, ?_, fun k => ?_⟩
      · unfold f10_toss
        simp only [c_c hX, x_personOn hX s1 hd, obd, onl, va_rf, b2, x_why hX s1 s2 hd, b3]
        rfl
      · unfold f11_toss
        simp only [n_c hM, m_wrongKept hM t1 hd, obd, b1]
        rfl
