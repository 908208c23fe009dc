/-! PURE: keep, row, put, copy -/
section FR2
variable {a ma nx nx' : Nat} {X X' M M' : Nat → Option HO}
theorem d_ok_up (hn : nx ≤ nx') {q : Nat} (h : d_ok a nx q) : d_ok a nx' q := by
  rcases h with e | ⟨e1, e2⟩
  · exact Or.inl e
  · exact Or.inr ⟨e1, by omega⟩
theorem d_LG_fr2 {ad : Nat} {P K F : Nat → Nat} {n : Nat} {lw : Int32} {B : Nat → Int32} (h : d_LG a nx X ad P K F n lw B) (hn : nx ≤ nx') (ok : ∀ q, d_ok a nx q → (∃ o, X q = some (.inl o)) → X' q = X q) (h0 : X' ad = X ad) (h1 : X' (ad + 1) = X (ad + 1)) (h2 : X' (ad + 2) = X (ad + 2)) : d_LG a nx' X' ad P K F n lw B := by
  obtain ⟨⟨⟨b1, PA, b2, b3⟩, b4, b5⟩, b6, b7⟩ := h
  exact ⟨⟨⟨h0.trans b1, PA, h1.trans b2, b3⟩, fun i hi => ⟨⟨(ok _ (b7 i hi) ⟨_, (b4 i hi).1.1⟩).trans (b4 i hi).1.1, (b4 i hi).1.2⟩, (b4 i hi).2⟩, b5⟩, h2.trans b6, fun i hi => d_ok_up hn (b7 i hi)⟩
theorem d_R_shelf (h : d_R a ma X M nx) (hn : nx ≤ nx') (ok : ∀ q, d_ok a nx q → (∃ o, X q = some (.inl o)) → X' q = X q) (hX : ∀ q, (a ≤ q ∧ q ≤ a + 10) ∨ q = a + 13 → X' q = X q) (hM : ∀ q, ¬ (ma + 5 ≤ q ∧ q ≤ ma + 10) → M' q = M q) (hS : d_RS a ma nx' X' M') : d_R a ma X' M' nx' := by
  obtain ⟨hi, b1, b2, ⟨th, po, ba, en, lt, lp, sd, b3⟩, ⟨P, K, F, n, lw, B, S, c1, c2, c3, c4⟩, ⟨P', K', F', n', lw', B', S', d1, d2, d3⟩, ⟨⟨P2, K2, F2, n2, lw2, B2, e1⟩, ⟨t, e2⟩, e3, ⟨D, e4⟩, ⟨T, e5⟩, u, e6⟩, b7⟩ := h
  exact ⟨hi, (hX _ (by omega)).trans b1, by omega, ⟨th, po, ba, en, lt, lp, sd, (hM _ (by omega)).trans b3⟩, ⟨P, K, F, n, lw, B, S, d_LG_fr2 c1 hn ok (hX _ (by omega)) (hX _ (by omega)) (hX _ (by omega)), c2, (hM _ (by omega)).trans c3, c4⟩, ⟨P', K', F', n', lw', B', S', d_LG_fr2 d1 hn ok (hX _ (by omega)) (hX _ (by omega)) (hX _ (by omega)), (hM _ (by omega)).trans d2, d3⟩, ⟨⟨P2, K2, F2, n2, lw2, B2, d_LG_fr2 e1 hn ok (hX _ (by omega)) (hX _ (by omega)) (hX _ (by omega))⟩, ⟨t, (hX _ (by omega)).trans e2⟩, ⟨(hX _ (by omega)).trans e3.1, e3.2⟩, ⟨D, (hM _ (by omega)).trans e4⟩, ⟨T, (hM _ (by omega)).trans e5⟩, u, (hM _ (by omega)).trans e6⟩, hS⟩
theorem d_SH_ch {kp so sz el kk kf kp' so' sz' el' kk' kf' : Nat → Int32} {e : Nat} {po ro : Option Nat} {c : Nat} (h : d_SH a nx X kp so sz el kk kf e po ro c) (hn : nx ≤ nx') (ok : ∀ q, d_ok a nx q → (∃ o, X q = some (.inl o)) → X' q = X q) (okc : kp e = 2 → d_ok a nx c → X' c = X c) (h1 : kp' e = kp e) (h2 : so' e = so e) (h3 : sz' e = sz e) (h4 : kk' e = kk e) (h5 : kf' e = kf e) (h6 : ∀ i, i < 100 → el' (100 * e + i) = el (100 * e + i)) : d_SH a nx' X' kp' so' sz' el' kk' kf' e po ro c := by
  rcases h with ⟨b1, b2⟩ | ⟨b1, b2, q, k, f, b3, b4, b5, b6, b7⟩ | ⟨b1, b2, r, t, m, g, b3, b4, b5, b6, b7, b8, b9, b10, b11, b12, b13, b14⟩
  · exact Or.inl ⟨h1.trans b1, b2⟩
  · exact Or.inr (Or.inl ⟨h1.trans b1, b2, q, k, f, b3, d_ok_up hn b4, ⟨(ok _ b4 ⟨_, b5.1⟩).trans b5.1, b5.2⟩, h4.trans b6, h5.trans b7⟩)
  · exact Or.inr (Or.inr ⟨h1.trans b1, b2, r, t, m, g, b3, b4, by omega, b6, by omega, (ok _ (Or.inr ⟨b4, b5⟩) ⟨_, b8⟩).trans b8, (okc b1 (Or.inr ⟨b6, b7⟩)).trans b9, b10, b11, h2.trans b12, h3.trans b13, fun i hi => (b14 i hi).trans (h6 i (by omega)).symm⟩)
end FR2
theorem d_rst0 {σ : HM} {q i : Nat} {b : Bool} {f : Nat → Option Nat} (h : σ.1 q = some (.inr (.inr (b, 8, f)))) (hi : i < 8) : hrst σ q (Int32.ofNat i) .null = some (hset σ q (.inr (.inr (b, 8, va_up f i none)))) := by
  unfold hrst hra
  simp only [h, d_inb hi (show 8 ≤ 1000 by omega), if_true, d_nn (show i < 2147483648 by omega)]
theorem d_rst1 {σ : HM} {q i p c : Nat} {b : Bool} {f : Nat → Option Nat} (h : σ.1 q = some (.inr (.inr (b, 8, f)))) (hi : i < 8) (hc : hcls σ p = some c) (hs : (rS b).contains c = true) : hrst σ q (Int32.ofNat i) (.ref p) = some (hset σ q (.inr (.inr (b, 8, va_up f i (some p))))) := by
  unfold hrst hra
  simp only [h, d_inb hi (show 8 ≤ 1000 by omega), if_true, d_nn (show i < 2147483648 by omega), hc, hs]
theorem d_put0 {X : Nat → Option HO} {q c nx : Nat} {x y : Value} (hc : sP.contains c = true) : hput (va_up X q (some (.inl (c, [x]))), nx) sP 0 q y = some (va_up X q (some (.inl (c, [y]))), nx) := by
  unfold hput hobj
  simp only [va_up_self, hc, Bool.true_and]
  show some (va_up (va_up X q _) q _, nx) = _
  rw [d_up_up]
  rfl
theorem x_new (X : Nat → Option HO) (nx : Nat) {k : Nat} (hk : k < 8) (f : Int32) : f10_newPerson (X, nx) (Int32.ofNat k) f = some (.ref nx, (va_up X nx (some (.inl (d_kc k, [.int f]))), nx + 1)) := by
  have i0 : f6_init (hnew (X, nx) (.inl (6, [.int 0]))) nx f = some (va_up X nx (some (.inl (6, [.int f]))), nx + 1) := by
    unfold f6_init; unfold hnew; rw [d_put0 (by decide)]; rfl
  have i4 : f6_init (hnew (X, nx) (.inl (4, [.int 0]))) nx f = some (va_up X nx (some (.inl (4, [.int f]))), nx + 1) := by
    unfold f6_init; unfold hnew; rw [d_put0 (by decide)]; rfl
  have i5 : f6_init (hnew (X, nx) (.inl (5, [.int 0]))) nx f = some (va_up X nx (some (.inl (5, [.int f]))), nx + 1) := by
    unfold f6_init; unfold hnew; rw [d_put0 (by decide)]; rfl
  have i1 : f6_init (hnew (X, nx) (.inl (1, [.int 0]))) nx f = some (va_up X nx (some (.inl (1, [.int f]))), nx + 1) := by
    unfold f6_init; unfold hnew; rw [d_put0 (by decide)]; rfl
  have i9 : f6_init (hnew (X, nx) (.inl (9, [.int 0]))) nx f = some (va_up X nx (some (.inl (9, [.int f]))), nx + 1) := by
    unfold f6_init; unfold hnew; rw [d_put0 (by decide)]; rfl
  have i3 : f6_init (hnew (X, nx) (.inl (3, [.int 0]))) nx f = some (va_up X nx (some (.inl (3, [.int f]))), nx + 1) := by
    unfold f6_init; unfold hnew; rw [d_put0 (by decide)]; rfl
  have i7 : f6_init (hnew (X, nx) (.inl (7, [.int 0]))) nx f = some (va_up X nx (some (.inl (7, [.int f]))), nx + 1) := by
    unfold f6_init; unfold hnew; rw [d_put0 (by decide)]; rfl
  have i00 : f6_init (hnew (X, nx) (.inl (0, [.int 0]))) nx f = some (va_up X nx (some (.inl (0, [.int f]))), nx + 1) := by
    unfold f6_init; unfold hnew; rw [d_put0 (by decide)]; rfl
  unfold f10_newPerson
  rcases d_kcases hk with rfl | rfl | rfl | rfl | rfl | rfl | rfl | rfl
  · simp only [if_neg (show ¬ Int32.ofNat 0 = 1 by decide), if_neg (show ¬ Int32.ofNat 0 = 2 by decide), if_neg (show ¬ Int32.ofNat 0 = 3 by decide), if_neg (show ¬ Int32.ofNat 0 = 4 by decide), if_neg (show ¬ Int32.ofNat 0 = 5 by decide), if_neg (show ¬ Int32.ofNat 0 = 6 by decide), if_neg (show ¬ Int32.ofNat 0 = 7 by decide), i0, obd, d_kc]
  · rw [if_pos (by decide)]; simp only [f4_init, i4, obd, d_kc]
  · rw [if_neg (by decide), if_pos (by decide)]; simp only [f5_init, i5, obd, d_kc]
  · rw [if_neg (by decide), if_neg (by decide), if_pos (by decide)]; simp only [f1_init, i1, obd, d_kc]
  · rw [if_neg (by decide), if_neg (by decide), if_neg (by decide), if_pos (by decide)]; simp only [f9_init, f4_init, i9, obd, d_kc]
  · rw [if_neg (by decide), if_neg (by decide), if_neg (by decide), if_neg (by decide), if_pos (by decide)]; simp only [f3_init, f5_init, i3, obd, d_kc]
  · rw [if_neg (by decide), if_neg (by decide), if_neg (by decide), if_neg (by decide), if_neg (by decide), if_pos (by decide)]; simp only [f7_init, f1_init, i7, obd, d_kc]
  · rw [if_neg (by decide), if_neg (by decide), if_neg (by decide), if_neg (by decide), if_neg (by decide), if_neg (by decide), if_pos (by decide)]; simp only [f0_init, i00, obd, d_kc]
theorem x_isPerson (p q : Int32) : f10_isPerson p q = some (d_i (d_is 8 p && d_is 10 q)) := by
  unfold f10_isPerson d_is
  have e8 : ((Int8.ofInt 8).toInt32).toInt = 8 := by decide
  have e9 : ((Int8.ofInt 9).toInt32).toInt = 9 := by decide
  by_cases h1 : p < 0
  · rw [if_pos h1]
    rw [Int32.lt_iff_toInt_lt, d_z0] at h1
    rw [decide_eq_false (show ¬ (0 ≤ p.toInt ∧ p.toInt < (8 : Nat)) by omega)]; rfl
  · rw [if_neg h1]
    rw [Int32.lt_iff_toInt_lt, d_z0] at h1
    by_cases h2 : (Int8.ofInt 8).toInt32 ≤ p
    · rw [if_pos h2]
      rw [Int32.le_iff_toInt_le, e8] at h2
      rw [decide_eq_false (show ¬ (0 ≤ p.toInt ∧ p.toInt < (8 : Nat)) by omega)]; rfl
    · rw [if_neg h2]
      rw [Int32.le_iff_toInt_le, e8] at h2
      rw [decide_eq_true (show (0 ≤ p.toInt ∧ p.toInt < (8 : Nat)) by omega)]
      by_cases h3 : q < 0
      · rw [if_pos h3]
        rw [Int32.lt_iff_toInt_lt, d_z0] at h3
        rw [decide_eq_false (show ¬ (0 ≤ q.toInt ∧ q.toInt < (10 : Nat)) by omega)]; rfl
      · rw [if_neg h3]
        rw [Int32.lt_iff_toInt_lt, d_z0] at h3
        by_cases h4 : (Int8.ofInt 9).toInt32 < q
        · rw [if_pos h4]
          rw [Int32.lt_iff_toInt_lt, e9] at h4
          rw [decide_eq_false (show ¬ (0 ≤ q.toInt ∧ q.toInt < (10 : Nat)) by omega)]; rfl
        · rw [if_neg h4]
          rw [Int32.lt_iff_toInt_lt, e9] at h4
          rw [decide_eq_true (show (0 ≤ q.toInt ∧ q.toInt < (10 : Nat)) by omega)]; rfl
theorem m_in (p : Int32) (c : Int64) (m : Nat) (hc : c.toInt = (m : Int) - 1) : f11_isIn p.toInt64 (Int64.ofNat 0) c = some (d_i (d_is m p)) := by
  rw [isIn_e, hc, Int32.toInt_toInt64, show (Int64.ofNat 0).toInt = 0 by decide, d_i_if]
  unfold d_is
  congr 3
  apply propext
  omega
theorem sD_keep (a ma : Nat) : S_keep (d_R a ma) a ma := by
  intro X M nx p1 p2 p3 p4 hR
  have hR0 := hR
  obtain ⟨hi, hX, ha, ⟨th, po, ba, en, lt, lp, sd, hM⟩, -, -, -, PS, RS, c, kp, so, sz, el, kk, kf, ⟨s1, s2⟩, ⟨t1, t2, t3, t4, t5, t6⟩, sh, dis⟩ := hR0
  have bad : ∀ (fx : f10_keep (X, nx) a p1 p2 p3 p4 = some (Int32.ofInt (-1), (X, nx))) (fm : f11_keep (M, nx) ma p1 p2 p3 p4 = some (Int32.ofInt (-1), (M, nx))), ∃ (r : Int32) (X' : Nat → Option HO) (n' : Nat) (M' : Nat → Option HO) (n'' : Nat), f10_keep (X, nx) a p1 p2 p3 p4 = some (r, (X', n')) ∧ f11_keep (M, n') ma p1 p2 p3 p4 = some (r, (M', n'')) ∧ d_R a ma X' M' n'' := fun fx fm => ⟨_, _, _, _, _, fx, fm, hR⟩
  cases e : d_is 8 p1 with
  | false =>
    refine bad ?_ ?_
    · unfold f10_keep
      simp only [x_isShelf, e, obd, d_i0, if_true]
    · unfold f11_keep
      simp only [m_isShelf, e, obd, d_i0, if_true]
  | true =>
    obtain ⟨d, hd, rfl⟩ := d_is_n e
    have one : ∀ p : Int32, f11_isIn p.toInt64 (Int64.ofNat 0) (Int64.ofNat 1) = some (d_i (d_is 2 p)) := fun p => m_in p _ 2 (by decide)
    have sev : ∀ p : Int32, f11_isIn p.toInt64 (Int64.ofNat 0) 7 = some (d_i (d_is 8 p)) := fun p => m_in p _ 8 (by decide)
    have nin : ∀ p : Int32, f11_isIn p.toInt64 (Int64.ofNat 0) 9 = some (d_i (d_is 10 p)) := fun p => m_in p _ 10 (by decide)
    let X8 : Nat → Option HO := va_up X (a + 12) (some (.inr (.inr (true, 8, va_up RS d none))))
    let M9 : Int32 → Int32 → Int32 → Nat → Option HO := fun x y z => va_up (va_up (va_up M (ma + 5) (d_A 8 (upd kp d x))) (ma + 9) (d_A 8 (upd kk d y))) (ma + 10) (d_A 8 (upd kf d z))
    have k49 : ∀ q n1, f11_keep_K49 (M, n1) ma (Int32.ofNat d) q p3 p4 = some (Int32.ofInt 0, (M9 q p3 p4, n1)) := fun q n1 => by
      unfold f11_keep_K49
      have w1 : hast (M, n1) (ma + 5) (Int32.ofNat d) q = some (va_up M (ma + 5) (d_A 8 (upd kp d q)), n1) := d_ast (σ := (M, n1)) t1 hd (by omega)
      have hM1 : d_MO (va_up M (ma + 5) (d_A 8 (upd kp d q))) ma hi th po ba en lt lp sd := (va_up_ne _ _ (by omega)).trans hM
      have w2 : hast (va_up M (ma + 5) (d_A 8 (upd kp d q)), n1) (ma + 9) (Int32.ofNat d) p3 = some (va_up (va_up M (ma + 5) (d_A 8 (upd kp d q))) (ma + 9) (d_A 8 (upd kk d p3)), n1) := d_ast (σ := (va_up M (ma + 5) (d_A 8 (upd kp d q)), n1)) ((va_up_ne _ _ (by omega)).trans t5) hd (by omega)
      have hM2 : d_MO (va_up (va_up M (ma + 5) (d_A 8 (upd kp d q))) (ma + 9) (d_A 8 (upd kk d p3))) ma hi th po ba en lt lp sd := (va_up_ne _ _ (by omega)).trans hM1
      have w3 : hast (va_up (va_up M (ma + 5) (d_A 8 (upd kp d q))) (ma + 9) (d_A 8 (upd kk d p3)), n1) (ma + 10) (Int32.ofNat d) p4 = some (M9 q p3 p4, n1) := d_ast (σ := (va_up (va_up M (ma + 5) (d_A 8 (upd kp d q))) (ma + 9) (d_A 8 (upd kk d p3)), n1)) ((va_up_ne _ _ (by omega)).trans ((va_up_ne _ _ (by omega)).trans t6)) hd (by omega)
      simp only [n_4 hM, obd, orf, w1, n_8 hM1, w2, n_9 hM2, w3]
    have m9 : ∀ x y z q, ¬ (ma + 5 ≤ q ∧ q ≤ ma + 10) → M9 x y z q = M q := fun x y z q hq => (va_up_ne _ _ (by omega)).trans ((va_up_ne _ _ (by omega)).trans (va_up_ne _ _ (by omega)))
    have hX8 : d_CX X8 a hi := (va_up_ne _ _ (by omega)).trans hX
    have e8 : hrst (X, nx) (a + 12) (Int32.ofNat d) .null = some (X8, nx) := d_rst0 (σ := (X, nx)) s2 hd
    have s18 : X8 (a + 11) = some (.inr (.inr (false, 8, PS))) := (va_up_ne _ _ (by omega)).trans s1
    cases e2 : d_is 2 p2 with
    | false =>
      refine bad ?_ ?_
      · unfold f10_keep
        simp only [x_isShelf, e, obd, d_i0, if_neg (show ¬ true = false by simp)]
        unfold d_is at e2
        rw [decide_eq_false_iff_not] at e2
        by_cases h1 : p2 < 0
        · rw [if_pos h1]
        · rw [if_neg h1, if_neg]
          rw [Int32.lt_iff_toInt_lt, d_z0] at h1
          rw [Int32.le_iff_toInt_le, show (Int32.ofInt 1).toInt = 1 by decide]
          omega
      · unfold f11_keep
        simp only [m_isShelf, e, obd, d_i0, if_neg (show ¬ true = false by simp), one, e2, if_true]
    | true =>
      obtain ⟨t, ht, rfl⟩ := d_is_n e2
      rcases (show t = 0 ∨ t = 1 by omega) with rfl | rfl
      · -- bare
        let X9 : Nat → Option HO := va_up X8 (a + 11) (some (.inr (.inr (false, 8, va_up PS d none))))
        have u : ∀ q, q ≠ a + 11 → q ≠ a + 12 → X9 q = X q := fun q h0 h1 => (va_up_ne _ _ h0).trans (va_up_ne _ _ h1)
        refine ⟨Int32.ofInt 0, X9, nx, M9 (Int32.ofNat 0) p3 p4, nx, ?_, ?_, ?_⟩
        · unfold f10_keep
          simp only [x_isShelf, e, obd, d_i0, if_neg (show ¬ true = false by simp), if_neg (show ¬ Int32.ofNat 0 < 0 by decide), if_pos (show Int32.ofNat 0 ≤ Int32.ofInt 1 by decide), if_neg (show ¬ Int32.ofNat 0 = Int32.ofInt 1 by decide)]
          unfold f10_keep_K34
          simp only [c_6 hX, obd, orf, e8, c_5 hX8, if_neg (show ¬ Int32.ofNat 0 = Int32.ofInt 1 by decide)]
          rw [d_rst0 (σ := (X8, nx)) s18 hd]
          rfl
        · unfold f11_keep
          simp only [m_isShelf, e, obd, d_i0, if_neg (show ¬ true = false by simp), one, e2, if_neg (show ¬ Int32.ofNat 0 = Int32.ofInt 1 by decide), k49]
        · refine d_R_shelf hR (Nat.le_refl _) (fun q hq _ => u q (by have := (d_ok_lt ha hq).2.1; omega) (by have := (d_ok_lt ha hq).2.1; omega)) (fun q hq => u q (by omega) (by omega)) (m9 _ _ _) ?_
          refine ⟨va_up PS d none, va_up RS d none, c, upd kp d (Int32.ofNat 0), so, sz, el, upd kk d p3, upd kf d p4, ⟨va_up_self _ _ _, (va_up_ne _ _ (by omega)).trans (va_up_self _ _ _)⟩, ⟨(va_up_ne _ _ (by omega)).trans ((va_up_ne _ _ (by omega)).trans (va_up_self _ _ _)), (va_up_ne _ _ (by omega)).trans ((va_up_ne _ _ (by omega)).trans ((va_up_ne _ _ (by omega)).trans t2)), (va_up_ne _ _ (by omega)).trans ((va_up_ne _ _ (by omega)).trans ((va_up_ne _ _ (by omega)).trans t3)), (va_up_ne _ _ (by omega)).trans ((va_up_ne _ _ (by omega)).trans ((va_up_ne _ _ (by omega)).trans t4)), (va_up_ne _ _ (by omega)).trans (va_up_self _ _ _), va_up_self _ _ _⟩, fun i hi => ?_, fun i j hi hj hij h1 h2 => ?_⟩
          · by_cases z : i = d
            · subst z
              exact Or.inl ⟨if_pos rfl, va_up_self _ _ _, va_up_self _ _ _⟩
            · rw [va_up_ne _ _ z, va_up_ne _ _ z]
              exact d_SH_ch (sh i hi) (Nat.le_refl _) (fun q hq _ => u q (by have := (d_ok_lt ha hq).2.1; omega) (by have := (d_ok_lt ha hq).2.1; omega)) (fun _ hq => u _ (by have := (d_ok_lt ha hq).2.1; omega) (by have := (d_ok_lt ha hq).2.1; omega)) (if_neg z) rfl rfl (if_neg z) (if_neg z) (fun _ _ => rfl)
          · have z1 : i ≠ d := fun z => by rw [z] at h1; exact absurd ((if_pos rfl).symm.trans h1) (by decide)
            have z2 : j ≠ d := fun z => by rw [z] at h2; exact absurd ((if_pos rfl).symm.trans h2) (by decide)
            exact dis i j hi hj hij ((if_neg z1).symm.trans h1) ((if_neg z2).symm.trans h2)
      · cases e3 : d_is 8 p3 && d_is 10 p4 with
        | false =>
          refine bad ?_ ?_
          · unfold f10_keep
            simp only [x_isShelf, e, obd, d_i0, if_neg (show ¬ true = false by simp), if_neg (show ¬ Int32.ofNat 1 < 0 by decide), if_pos (show Int32.ofNat 1 ≤ Int32.ofInt 1 by decide), if_pos (show Int32.ofNat 1 = Int32.ofInt 1 from rfl), x_isPerson, e3, if_true]
          · unfold f11_keep
            simp only [m_isShelf, e, obd, d_i0, if_neg (show ¬ true = false by simp), one, e2, if_pos (show Int32.ofNat 1 = Int32.ofInt 1 from rfl), sev, nin]
            cases g1 : d_is 8 p3 with
            | false => rw [if_pos rfl]
            | true =>
              rw [if_neg (by simp)]
              rw [g1] at e3
              simp only [Bool.true_and] at e3
              rw [e3, if_pos rfl]
        | true =>
          obtain ⟨g1, g2⟩ := Bool.and_eq_true _ _ ▸ e3
          obtain ⟨k, hk, rfl⟩ := d_is_n g1
          obtain ⟨f, hf, rfl⟩ := d_is_n g2
          let XP : Nat → Option HO := va_up X8 nx (some (.inl (d_kc k, [.int (Int32.ofNat f)])))
          let X9 : Nat → Option HO := va_up XP (a + 11) (some (.inr (.inr (false, 8, va_up PS d (some nx)))))
          have u : ∀ q, q ≠ a + 11 → q ≠ a + 12 → q < nx → X9 q = X q := fun q h0 h1 h2 => (va_up_ne _ _ h0).trans ((va_up_ne _ _ (by omega)).trans (va_up_ne _ _ h1))
          refine ⟨Int32.ofInt 0, X9, nx + 1, M9 (Int32.ofNat 1) (Int32.ofNat k) (Int32.ofNat f), nx + 1, ?_, ?_, ?_⟩
          · unfold f10_keep
            simp only [x_isShelf, e, obd, d_i0, if_neg (show ¬ true = false by simp), if_neg (show ¬ Int32.ofNat 1 < 0 by decide), if_pos (show Int32.ofNat 1 ≤ Int32.ofInt 1 by decide), if_pos (show Int32.ofNat 1 = Int32.ofInt 1 from rfl), x_isPerson, e3]
            unfold f10_keep_K34
            simp only [c_6 hX, obd, orf, e8, c_5 hX8, if_pos (show Int32.ofNat 1 = Int32.ofInt 1 from rfl), x_new X8 nx hk]
            rw [d_rst1 (σ := (va_up X8 nx (some (.inl (d_kc k, [.int (Int32.ofNat f)]))), nx + 1)) (c := d_kc k) ((va_up_ne _ _ (by omega)).trans s18) hd (d_hcls (σ := (va_up X8 nx (some (.inl (d_kc k, [.int (Int32.ofNat f)]))), nx + 1)) (va_up_self _ _ _)) (d_kc_P hk)]
            rfl
          · unfold f11_keep
            simp only [m_isShelf, e, obd, d_i0, if_neg (show ¬ true = false by simp), one, e2, if_pos (show Int32.ofNat 1 = Int32.ofInt 1 from rfl), sev, nin, g1, g2, k49]
          · refine d_R_shelf hR (Nat.le_succ _) (fun q hq _ => u q (by have := (d_ok_lt ha hq).2.1; omega) (by have := (d_ok_lt ha hq).2.1; omega) (d_ok_lt ha hq).1) (fun q hq => u q (by omega) (by omega) (by omega)) (m9 _ _ _) ?_
            refine ⟨va_up PS d (some nx), va_up RS d none, c, upd kp d (Int32.ofNat 1), so, sz, el, upd kk d (Int32.ofNat k), upd kf d (Int32.ofNat f), ⟨va_up_self _ _ _, (va_up_ne _ _ (by omega)).trans ((va_up_ne _ _ (by omega)).trans (va_up_self _ _ _))⟩, ⟨(va_up_ne _ _ (by omega)).trans ((va_up_ne _ _ (by omega)).trans (va_up_self _ _ _)), (va_up_ne _ _ (by omega)).trans ((va_up_ne _ _ (by omega)).trans ((va_up_ne _ _ (by omega)).trans t2)), (va_up_ne _ _ (by omega)).trans ((va_up_ne _ _ (by omega)).trans ((va_up_ne _ _ (by omega)).trans t3)), (va_up_ne _ _ (by omega)).trans ((va_up_ne _ _ (by omega)).trans ((va_up_ne _ _ (by omega)).trans t4)), (va_up_ne _ _ (by omega)).trans (va_up_self _ _ _), va_up_self _ _ _⟩, fun i hi => ?_, fun i j hi hj hij h1 h2 => ?_⟩
            · by_cases z : i = d
              · subst z
                exact Or.inr (Or.inl ⟨if_pos rfl, va_up_self _ _ _, nx, k, f, va_up_self _ _ _, Or.inr ⟨ha, by omega⟩, ⟨(va_up_ne _ _ (by omega)).trans (va_up_self _ _ _), hk, hf⟩, if_pos rfl, if_pos rfl⟩)
              · rw [va_up_ne _ _ z, va_up_ne _ _ z]
                exact d_SH_ch (sh i hi) (Nat.le_succ _) (fun q hq _ => u q (by have := (d_ok_lt ha hq).2.1; omega) (by have := (d_ok_lt ha hq).2.1; omega) (d_ok_lt ha hq).1) (fun _ hq => u _ (by have := (d_ok_lt ha hq).2.1; omega) (by have := (d_ok_lt ha hq).2.1; omega) (d_ok_lt ha hq).1) (if_neg z) rfl rfl (if_neg z) (if_neg z) (fun _ _ => rfl)
            · have z1 : i ≠ d := fun z => by rw [z] at h1; exact absurd ((if_pos rfl).symm.trans h1) (by decide)
              have z2 : j ≠ d := fun z => by rw [z] at h2; exact absurd ((if_pos rfl).symm.trans h2) (by decide)
              exact dis i j hi hj hij ((if_neg z1).symm.trans h1) ((if_neg z2).symm.trans h2)
