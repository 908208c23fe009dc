/-! PURE: who comes -/
def d_sB (n : Nat) (B : Nat → Int32) : Nat → Int32 := fun i => if i < n then B i ||| d_one n else if i = n then Int32.ofInt 0 else B i
theorem d_TB_seat {n : Nat} {B : Nat → Int32} (hn : n ≤ 7) (T : d_TB n B) : d_TB (n + 1) (d_sB n B) := by
  have lo : ∀ i, i < n → ∀ j, d_b (d_sB n B i) j = (d_b (B i) j || decide (j = n)) := fun i hi j => by
    unfold d_sB
    rw [if_pos hi, d_bor, d_bone (by omega)]
  have hi0 : ∀ j, d_b (d_sB n B n) j = false := fun j => by
    unfold d_sB
    rw [if_neg (by omega), if_pos rfl, d_bz]
  refine ⟨fun i hi j hj => ?_, fun i hi => ?_, fun i j hi hj e => ?_⟩
  · by_cases c : i < n
    · rw [lo i c, T.1 i c j (by omega)]; simp; omega
    · rw [show i = n by omega]; exact hi0 j
  · by_cases c : i < n
    · rw [lo i c, T.2.1 i c]; simp; omega
    · rw [show i = n by omega]; exact hi0 n
  · by_cases c1 : i < n
    · by_cases c2 : j < n
      · rw [lo i c1, lo j c2, T.2.2 i j c1 c2 e, decide_eq_false (by omega), decide_eq_false (by omega)]; simp
      · rw [show j = n by omega, hi0, lo i c1]; simp
    · rw [show i = n by omega, hi0, lo j (by omega)]; simp
theorem x_seat {a nx : Nat} {X : Nat → Option HO} {ad n q k f : Nat} {P K F : Nat → Nat} {lw : Int32} {B : Nat → Int32} (G : d_LG a nx X ad P K F n lw B) (hn : n ≤ 7) (hq : d_ok a nx q) (hpe : d_PE X q k f) (ha : ∀ k, k ≤ 2 → ¬ d_ok a nx (ad + k)) (n1 : Nat) :
    ∃ X', f2_seat (X, n1) ad q = some (X', n1) ∧ d_LG a nx X' ad (va_up P n q) (va_up K n k) (va_up F n f) (n + 1) lw (d_sB n B) ∧ ∀ p, p ≠ ad → p ≠ ad + 1 → p ≠ ad + 2 → X' p = X p := by
  have nq : q ≠ ad ∧ q ≠ ad + 1 ∧ q ≠ ad + 2 := ⟨fun e => ha 0 (by omega) (by rw [Nat.add_zero, ← e]; exact hq), fun e => ha 1 (by omega) (by rw [← e]; exact hq), fun e => ha 2 (by omega) (by rw [← e]; exact hq)⟩
  obtain ⟨L, hB, hP⟩ := G
  have np : ∀ i, i < 8 → P i ≠ ad ∧ P i ≠ ad + 1 ∧ P i ≠ ad + 2 := fun i hi => ⟨fun e => ha 0 (by omega) (by rw [Nat.add_zero, ← e]; exact hP i hi), fun e => ha 1 (by omega) (by rw [← e]; exact hP i hi), fun e => ha 2 (by omega) (by rw [← e]; exact hP i hi)⟩
  have L0 := L
  obtain ⟨⟨b1, PA, b2, b3⟩, b4, b5⟩ := L
  let Bi : Nat → Nat → Int32 := fun i j => if j < i then B j ||| d_one n else B j
  let X1 : Nat → Option HO := d_cB X ad (Bi n)
  let X2 : Nat → Option HO := va_up X1 (ad + 1) (some (.inr (.inr (false, 8, va_up PA n (some q)))))
  let X3 : Nat → Option HO := va_up X2 (ad + 2) (d_A 8 (upd (Bi n) n (Int32.ofInt 0)))
  let X4 : Nat → Option HO := va_up X3 ad (some (.inl (2, [.ref (ad + 1), .ref (ad + 2), .int (Int32.ofNat (n + 1)), .int lw])))
  have e0 : d_cB X ad (Bi 0) = X := by
    have : Bi 0 = B := by funext j; show (if j < 0 then _ else B j) = B j; rw [if_neg (by omega)]
    rw [this]; exact d_cB_e hB
  have lp : iter (f2_seat_L16 ad q) FU (Int32.ofInt 0, (X, n1)) = some (X1, n1) := by
    have := d_for (step := f2_seat_L16 ad q) (fun i => (Int32.ofNat i, ((d_cB X ad (Bi i), n1) : HM))) (X1, n1) n 0 (by omega) (by omega) (by
      intro i _ hi
      unfold f2_seat_L16
      simp only [x_n L0, obd, d_lef hi (by omega), if_false, x_f1 L0, orf, x_ld (show i < 8 by omega), d_one_e (show n < 32 by omega), x_st (show i < 8 by omega), d_su]
      congr 6
      funext j
      unfold upd
      show (if j = i then Bi i i ||| d_one n else Bi i j) = Bi (i + 1) j
      show (if j = i then (if i < i then B i ||| d_one n else B i) ||| d_one n else if j < i then B j ||| d_one n else B j) = if j < i + 1 then B j ||| d_one n else B j
      by_cases z : j = i
      · rw [if_pos z, if_neg (by omega), if_pos (by omega), z]
      · rw [if_neg z]
        by_cases z2 : j < i
        · rw [if_pos z2, if_pos (by omega)]
        · rw [if_neg z2, if_neg (by omega)]) (by
      unfold f2_seat_L16
      simp only [x_n L0, obd, d_let, if_true]
      rfl)
    rw [e0] at this
    exact this
  have f1 : ∀ p, p ≠ ad + 1 → X2 p = X1 p := fun p h => va_up_ne _ _ h
  have f2 : ∀ p, p ≠ ad + 2 → X3 p = X2 p := fun p h => va_up_ne _ _ h
  have f3 : ∀ p, p ≠ ad → X4 p = X3 p := fun p h => va_up_ne _ _ h
  have o1 : X1 ad = some (.inl (2, [.ref (ad + 1), .ref (ad + 2), .int (Int32.ofNat n), .int lw])) := d_cB_0.trans b1
  have o2 : X2 ad = some (.inl (2, [.ref (ad + 1), .ref (ad + 2), .int (Int32.ofNat n), .int lw])) := (f1 _ (by omega)).trans o1
  have o3 : X3 ad = some (.inl (2, [.ref (ad + 1), .ref (ad + 2), .int (Int32.ofNat n), .int lw])) := (f2 _ (by omega)).trans o2
  have u : ∀ p, p ≠ ad → p ≠ ad + 1 → p ≠ ad + 2 → X4 p = X p := fun p h0 h1 h2 => (f3 p h0).trans ((f2 p h2).trans ((f1 p h1).trans (d_cB_ne h2)))
  refine ⟨X4, ?_, ⟨⟨⟨va_up_self _ _ _, va_up PA n (some q), (f3 _ (by omega)).trans ((f2 _ (by omega)).trans (va_up_self _ _ _)), fun i hi => ?_⟩, fun i hi => ?_, by omega⟩, ?_, fun i hi => ?_⟩, u⟩
  · unfold f2_seat
    have g0 : hfi (X, n1) [2] 2 ad = some (Int32.ofNat n) := d_hfi (σ := (X, n1)) b1 rfl rfl
    have g1 : hfld (X1, n1) [2] 0 ad = some (.ref (ad + 1)) := d_hfld (σ := (X1, n1)) o1 rfl
    have g2 : hfi (X1, n1) [2] 2 ad = some (Int32.ofNat n) := d_hfi (σ := (X1, n1)) o1 rfl rfl
    have g3 : hrst (X1, n1) (ad + 1) (Int32.ofNat n) (.ref q) = some (X2, n1) := d_rst1 (σ := (X1, n1)) (c := d_kc k) (d_cB_1.trans b2) (by omega) (d_hcls (σ := (X1, n1)) ((d_cB_ne nq.2.2).trans hpe.1)) (d_kc_P hpe.2.1)
    have g4 : hfld (X2, n1) [2] 1 ad = some (.ref (ad + 2)) := d_hfld (σ := (X2, n1)) o2 rfl
    have g5 : hfi (X2, n1) [2] 2 ad = some (Int32.ofNat n) := d_hfi (σ := (X2, n1)) o2 rfl rfl
    have g6 : hast (X2, n1) (ad + 2) (Int32.ofNat n) (Int32.ofInt 0) = some (X3, n1) := d_ast (σ := (X2, n1)) ((f1 _ (by omega)).trans d_cB_at) (by omega) (by omega)
    have g7 : hfi (X3, n1) [2] 2 ad = some (Int32.ofNat n) := d_hfi (σ := (X3, n1)) o3 rfl rfl
    have g8 : hput (X3, n1) [2] 2 ad (.int (Int32.ofNat (n + 1))) = some (X4, n1) := by
      unfold hput hobj
      simp only [o3]
      rfl
    have g9 : Int32.ofNat n < (Int8.ofInt 8).toInt32 := by
      rw [Int32.lt_iff_toInt_lt, d_tn (by omega), show ((Int8.ofInt 8).toInt32).toInt = 8 by decide]; omega
    simp only [g0, obd, if_pos g9, lp, g1, g2, orf, g3, g4, g5, g6, g7, d_su, g8]
  · by_cases z : i = n
    · rw [z, va_up_self, va_up_self]
    · rw [va_up_ne _ _ z, va_up_ne _ _ z]; exact b3 i hi
  · by_cases z : i = n
    · rw [z, va_up_self, va_up_self, va_up_self]
      exact ⟨⟨(u q nq.1 nq.2.1 nq.2.2).trans hpe.1, hpe.2⟩, nq.2.2⟩
    · rw [va_up_ne _ _ z, va_up_ne _ _ z, va_up_ne _ _ z]
      exact ⟨⟨(u _ (np i hi).1 (np i hi).2.1 (np i hi).2.2).trans (b4 i hi).1.1, (b4 i hi).1.2⟩, (np i hi).2.2⟩
  · rw [f3 _ (by omega)]
    show va_up X2 (ad + 2) (d_A 8 (upd (Bi n) n (Int32.ofInt 0))) (ad + 2) = _
    rw [va_up_self]
    congr 4
    funext j
    unfold upd d_sB
    show (if j = n then Int32.ofInt 0 else if j < n then B j ||| d_one n else B j) = _
    by_cases z : j = n
    · rw [if_pos z, if_neg (by omega), if_pos z]
    · rw [if_neg z]
      by_cases z2 : j < n
      · rw [if_pos z2, if_pos z2]
      · rw [if_neg z2, if_neg z2, if_neg z]
  · by_cases z : i = n
    · rw [z, va_up_self]; exact hq
    · rw [va_up_ne _ _ z]; exact hP i hi
/-- what s says, its size apart -/
def d_MSc (S : Nat → Int32) (c : Int32) (n : Nat) (K F : Nat → Nat) (B : Nat → Int32) (lw : Int32) : Prop := S 0 = c ∧ S 1 = lw ∧ ∀ i, i < n → S (2 + 3 * i) = Int32.ofNat (K i) ∧ S (3 + 3 * i) = Int32.ofNat (F i) ∧ S (4 + 3 * i) = B i
theorem d_MSc_B {S : Nat → Int32} {c : Int32} {n : Nat} {K F : Nat → Nat} {B : Nat → Int32} {lw : Int32} (h : d_MSc S c n K F B lw) {j : Nat} (x : Int32) : d_MSc (upd S (4 + 3 * j) x) c n K F (upd B j x) lw := by
  refine ⟨(if_neg (by omega)).trans h.1, (if_neg (by omega)).trans h.2.1, fun i hi => ⟨(if_neg (by omega)).trans (h.2.2 i hi).1, (if_neg (by omega)).trans (h.2.2 i hi).2.1, ?_⟩⟩
  unfold upd
  by_cases e : i = j
  · subst e; simp
  · rw [if_neg (by omega), if_neg e]; exact (h.2.2 i hi).2.2
theorem d_MSc_cB {S : Nat → Int32} {c : Int32} {n : Nat} {K F K' F' : Nat → Nat} {B B' : Nat → Int32} {lw : Int32} (h : ∀ i, i < n → K i = K' i ∧ F i = F' i ∧ B i = B' i) (hS : d_MSc S c n K F B lw) : d_MSc S c n K' F' B' lw :=
  ⟨hS.1, hS.2.1, fun i hi => ⟨(hS.2.2 i hi).1.trans (by rw [(h i hi).1]), (hS.2.2 i hi).2.1.trans (by rw [(h i hi).2.1]), (hS.2.2 i hi).2.2.trans (h i hi).2.2⟩⟩
theorem m_joins {Z : Nat → Option HO} {ma n nx k f : Nat} {S : Nat → Int32} {K F : Nat → Nat} {B : Nat → Int32} {lw : Int32} (h : d_MZ Z ma) (hS : d_MS S n K F B lw) (hn : n ≤ 7) : ∃ S', f11_joins (d_mS Z ma S, nx) ma (Int32.ofNat k) (Int32.ofNat f) = some (d_mS Z ma S', nx) ∧ d_MS S' (n + 1) (va_up K n k) (va_up F n f) (d_sB n B) lw := by
  let S1 : Nat → Int32 := upd S (2 + 3 * n) (Int32.ofNat k)
  let S2 : Nat → Int32 := upd S1 (3 + 3 * n) (Int32.ofNat f)
  let S3 : Nat → Int32 := upd S2 (4 + 3 * n) (Int32.ofInt 0)
  let Bi : Nat → Nat → Int32 := fun i j => if j < i then B j ||| d_one n else if j = n then Int32.ofInt 0 else B j
  have h3 : d_MSc S3 (Int32.ofNat n) (n + 1) (va_up K n k) (va_up F n f) (Bi 0) lw := by
    refine ⟨(if_neg (by omega)).trans ((if_neg (by omega)).trans ((if_neg (by omega)).trans hS.1)), (if_neg (by omega)).trans ((if_neg (by omega)).trans ((if_neg (by omega)).trans hS.2.1)), fun i hi => ?_⟩
    by_cases z : i = n
    · subst z
      rw [va_up_self, va_up_self]
      refine ⟨(if_neg (by omega)).trans ((if_neg (by omega)).trans (if_pos rfl)), (if_neg (by omega)).trans (if_pos rfl), (if_pos rfl).trans ?_⟩
      exact ((if_neg (by omega)).trans (if_pos rfl)).symm
    · rw [va_up_ne _ _ z, va_up_ne _ _ z]
      have q := hS.2.2 i (by omega)
      refine ⟨(if_neg (by omega)).trans ((if_neg (by omega)).trans ((if_neg (by omega)).trans q.1)), (if_neg (by omega)).trans ((if_neg (by omega)).trans ((if_neg (by omega)).trans q.2.1)), (if_neg (by omega)).trans ((if_neg (by omega)).trans ((if_neg (by omega)).trans (q.2.2.trans ?_)))⟩
      exact ((if_neg (by omega)).trans (if_neg z)).symm
  obtain ⟨r, g1, S', rfl, g2⟩ := d_it (step := f11_joins_L31 ma (Int32.ofNat n)) (fun i w => ∃ S', w = (Int32.ofNat i, (d_mS Z ma S', nx)) ∧ d_MSc S' (Int32.ofNat n) (n + 1) (va_up K n k) (va_up F n f) (Bi i) lw) (fun r => ∃ S', r = (d_mS Z ma S', nx) ∧ d_MSc S' (Int32.ofNat n) (n + 1) (va_up K n k) (va_up F n f) (Bi n) lw) n (by
      rintro i w hi ⟨S', rfl, hS'⟩
      unfold f11_joins_L31
      simp only [d_lef hi (by omega), if_false, m_c h, m_beaten h (show i < 8 by omega), obd, m_puts2 h (show i < 8 by omega), d_su, d_one_e (show n < 32 by omega), (hS'.2.2 i (by omega)).2.2]
      refine Or.inl ⟨_, rfl, _, rfl, d_MSc_cB (fun j hj => ⟨rfl, rfl, ?_⟩) (d_MSc_B hS' (j := i) (Bi i i ||| d_one n))⟩
      unfold upd
      show (if j = i then (if i < i then B i ||| d_one n else if i = n then Int32.ofInt 0 else B i) ||| d_one n else if j < i then B j ||| d_one n else if j = n then Int32.ofInt 0 else B j) = if j < i + 1 then B j ||| d_one n else if j = n then Int32.ofInt 0 else B j
      by_cases z : j = i
      · rw [if_pos z, if_neg (by omega), if_neg (by omega), if_pos (by omega), z]
      · rw [if_neg z]
        by_cases z2 : j < i
        · rw [if_pos z2, if_pos (by omega)]
        · rw [if_neg z2, if_neg (show ¬ j < i + 1 by omega)]) (by
      rintro w ⟨S', rfl, hS'⟩
      unfold f11_joins_L31
      simp only [d_let, if_true]
      exact ⟨_, rfl, S', rfl, hS'⟩) FU 0 (Int32.ofInt 0, (d_mS Z ma S3, nx)) (by omega) (by unfold FU; omega) ⟨S3, rfl, h3⟩
  refine ⟨upd S' 0 (Int32.ofNat (n + 1)), ?_, ⟨if_pos rfl, (if_neg (by omega)).trans g2.2.1, fun i hi => ⟨(if_neg (by omega)).trans (g2.2.2 i hi).1, (if_neg (by omega)).trans (g2.2.2 i hi).2.1, (if_neg (by omega)).trans (g2.2.2 i hi).2.2⟩⟩⟩
  unfold f11_joins
  simp only [m_f0 h, obd, orf, m_ld0, hS.1, m_c h, m_puts0 h (show n < 8 by omega), m_puts1 h (show n < 8 by omega), m_puts2 h (show n < 8 by omega)]
  show obd (iter (f11_joins_L31 ma (Int32.ofNat n)) FU (Int32.ofInt 0, (d_mS Z ma S3, nx))) _ = _
  rw [g1]
  simp only [obd, m_f0 h, orf, m_ld0, g2.1, d_su, m_st0]
theorem sD_comes (a ma : Nat) : S_comes (d_R a ma) a ma := by
  intro X M nx p1 hR
  have hR0 := hR
  obtain ⟨hi, hX, ha, ⟨th, po, ba, en, lt, lp, sd, hM⟩, ⟨P, K, F, n, lw, B, S, G, hG, hS0, hS⟩, -, -, PS, RS, c, kp, so, sz, el, kk, kf, ⟨s1, s2⟩, ⟨t1, t2, t3, t4, t5, t6⟩, sh, -⟩ := hR0
  have Z := d_MO_Z hM
  have eM := d_mS_e hS0
  have bad : ∀ (r : Int32) (fx : f10_comes (X, nx) a p1 = some (r, (X, nx))) (fm : f11_comes (M, nx) ma p1 = some (r, (M, nx))), ∃ (r : Int32) (X' : Nat → Option HO) (n' : Nat) (M' : Nat → Option HO) (n'' : Nat), f10_comes (X, nx) a p1 = some (r, (X', n')) ∧ f11_comes (M, n') ma p1 = some (r, (M', n'')) ∧ d_R a ma X' M' n'' := fun r fx fm => ⟨_, _, _, _, _, fx, fm, hR⟩
  cases e : d_is 8 p1 with
  | false =>
    refine bad (Int32.ofInt (-1)) ?_ ?_
    · unfold f10_comes
      simp only [c_c hX, x_person0 e, obd, onl, x_why0 e]
    · unfold f11_comes
      simp only [n_c hM, m_wrongKept0 e, obd]
      rfl
  | true =>
    obtain ⟨d, hd, rfl⟩ := d_is_n e
    rcases d_SH_RW (sh d hd) with ⟨b1, b2, b3⟩ | ⟨b1, b2, q, k, f, b3, b4, b5, b6, b7⟩ | ⟨b1, b2, r, t, m, g, b3, b4, b5, b6, b7, b8⟩
    · refine bad ((Int8.ofInt (-11)).toInt32) ?_ ?_
      · unfold f10_comes
        simp only [c_c hX, x_personOn hX s1 hd, obd, onl, va_rf, b2, x_why hX s1 s2 hd, b3]
        rfl
      · unfold f11_comes
        simp only [n_c hM, m_wrongKept hM t1 hd, obd, b1]
        rfl
    · have nx0 : hfi (X, nx) [2] 2 (a + 2) = some (Int32.ofNat n) := d_hfi (σ := (X, nx)) G.1.1.1 rfl rfl
      have oc : ∀ {α : Type} (x : Option α), ocl (X, nx) (a + 2) 2 x = x := fun x => d_ocl (d_hcls (σ := (X, nx)) G.1.1.1) x
      have wk : ∀ k, f11_wrongKept (M, k) ma (Int32.ofNat d) = some (Int32.ofInt 0) := fun k => by
        rw [m_wrongKept hM t1 hd, b1, if_neg (by decide), if_pos (by decide)]
      have m0 : ∀ k, hfld (M, k) [11] 0 ma = some (.ref (ma + 1)) := fun k => n_f hM
      have ml0 : ∀ k, hald (M, k) (ma + 1) (Int32.ofInt 0) = some (Int32.ofNat n) := fun k => (d_ald (σ := (M, k)) (i := 0) hS0 (by omega) (by omega)).trans (by rw [hS.1])
      by_cases c7 : n < 7
      · obtain ⟨X', x1, x2, x3⟩ := x_seat (nx := nx) G (by omega) b4 b5 (fun k hk => by rw [Nat.add_assoc]; exact d_nok (by omega) (by omega)) nx
        obtain ⟨S', y1, y2⟩ := m_joins (nx := nx) (k := k) (f := f) Z hS (show n ≤ 7 by omega)
        have hX' : d_CX X' a hi := (x3 a (by omega) (by omega) (by omega)).trans hX
        refine ⟨Int32.ofNat n, X', nx, d_mS M ma S', nx, ?_, ?_, ?_⟩
        · unfold f10_comes
          have g9 : Int32.ofNat n < (Int8.ofInt 7).toInt32 := by
            rw [Int32.lt_iff_toInt_lt, d_tn (by omega), show ((Int8.ofInt 7).toInt32).toInt = 7 by decide]; omega
          have nx1 : hfi (X', nx) [2] 2 (a + 2) = some (Int32.ofNat (n + 1)) := d_hfi (σ := (X', nx)) x2.1.1.1 rfl rfl
          simp only [c_c hX, x_personOn hX s1 hd, obd, onl, va_rf, b3, c_now hX, orf, nx0, if_pos g9, oc, x1, c_now hX', nx1]
          rw [show Int32.ofNat (n + 1) - Int32.ofInt 1 = Int32.ofNat n from (Int32.ofNat_sub (n + 1) 1 (by omega)).symm]
        · unfold f11_comes
          simp only [n_c hM, wk, obd, if_pos (show Int32.ofInt 0 = 0 from rfl), n_8 hM, n_9 hM, orf, d_ild M t5 hd (by omega), d_ild M t6 hd (by omega), b6, b7]
          unfold f11_adds
          rw [eM] at y1
          have ne7 : ¬ Int32.ofNat n = (Int8.ofInt 7).toInt32 := fun z => by
            have := congrArg Int32.toInt z
            rw [d_tn (by omega), show ((Int8.ofInt 7).toInt32).toInt = 7 by decide] at this
            omega
          simp only [m0, obd, orf, ml0, if_neg ne7, n_c hM, y1, if_neg (show ¬ Int32.ofInt 1 = 0 by decide), m_f0 Z, m_ld0, y2.1]
          rw [show Int32.ofNat (n + 1) - Int32.ofInt 1 = Int32.ofNat n from (Int32.ofNat_sub (n + 1) 1 (by omega)).symm]
        · exact d_R_now hR (Nat.le_refl _) (fun q _ hq => x3 q (by omega) (by omega) (by omega)) d_mS_ne' ⟨_, _, _, n + 1, lw, _, S', x2, ⟨d_TB_seat (by omega) hG.1, by omega, hG.2.2⟩, d_mS_at, y2⟩
      · have n7 : n = 7 := by have := hG.2.1; omega
        refine bad ((Int8.ofInt (-2)).toInt32) ?_ ?_
        · unfold f10_comes
          simp only [c_c hX, x_personOn hX s1 hd, obd, onl, va_rf, b3, c_now hX, orf, nx0, n7]
          rfl
        · unfold f11_comes
          simp only [n_c hM, wk, obd, if_pos (show Int32.ofInt 0 = 0 from rfl), n_8 hM, n_9 hM, orf, d_ild M t5 hd (by omega), d_ild M t6 hd (by omega), b6, b7]
          unfold f11_adds
          simp only [m0, obd, orf, ml0, n7]
          rfl
    · refine bad ((Int8.ofInt (-12)).toInt32) ?_ ?_
      · unfold f10_comes
        simp only [c_c hX, x_personOn hX s1 hd, obd, onl, va_rf, b2, x_why hX s1 s2 hd, b3]
        rfl
      · unfold f11_comes
        simp only [n_c hM, m_wrongKept hM t1 hd, obd, b1]
        rfl
