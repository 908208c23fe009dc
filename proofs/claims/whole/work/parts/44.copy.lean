/-! PURE: copy -/
theorem d_sub {m : Nat} (hm : m ≤ 100) {p : Int32} (hp : ¬ p < 0) : (Int32.ofNat m - p).toInt = m - p.toInt := by
  rw [Int32.lt_iff_toInt_lt, d_z0] at hp
  have h2 := Int32.toInt_lt p
  rw [Int32.toInt_sub, d_tn (by omega)]
  exact Int.bmod_eq_of_le (by omega) (by omega)
theorem r_cpi {X : Nat → Option HO} {c1 c2 m1 m2 nx i j n : Nat} {g1 g2 : Nat → Int32} (h1 : X c1 = d_A m1 g1) (h2 : X c2 = d_A m2 g2) (hm1 : m1 ≤ 100) (hm2 : m2 ≤ 100) (hi : i + n ≤ m1) (hj : j + n ≤ m2) : hcpi (X, nx) c1 (Int32.ofNat i) c2 (Int32.ofNat j) (Int32.ofNat n) = some (va_up X c2 (d_A m2 (va_cpy g1 g2 i j n)), nx) := by
  unfold hcpi hia
  simp only [h1, h2, d_tn (show i < 2147483648 by omega), d_tn (show j < 2147483648 by omega), d_tn (show n < 2147483648 by omega), d_nn (show i < 2147483648 by omega), d_nn (show j < 2147483648 by omega), d_nn (show n < 2147483648 by omega)]
  rw [decide_eq_true (show (0 : Int) ≤ (i : Int) by omega), decide_eq_true (show (0 : Int) ≤ (j : Int) by omega), decide_eq_true (show (0 : Int) ≤ (n : Int) by omega), decide_eq_true hi, decide_eq_true hj]
  rfl
/-- the model's copy, element by element, in the order that spares what is read later -/
def d_cp (el : Nat → Int32) (s t n i j k : Nat) : Nat → Int32 := fun x => if i ≤ j then (if t + (n - k) ≤ x ∧ x < t + n then el (s + (x - t)) else el x) else (if t ≤ x ∧ x < t + k then el (s + (x - t)) else el x)
theorem m_copy {M : Nat → Option HO} {ma nx d e i j n m1 m2 : Nat} {hi th po ba en lt lp sd : Int32} {el : Nat → Int32} (hM : d_MO M ma hi th po ba en lt lp sd) (h8 : M (ma + 8) = d_A 800 el) (hd : d < 8) (he : e < 8) (hm1 : m1 ≤ 100) (hm2 : m2 ≤ 100) (hi : i + n ≤ m1) (hj : j + n ≤ m2) : iter (f11_copy_L122 ma (Int32.ofNat d) (Int32.ofNat i) (Int32.ofNat e) (Int32.ofNat j) (Int32.ofNat n)) FU (Int32.ofInt 0, (M, nx)) = some (va_up M (ma + 8) (d_A 800 (d_cp el (100 * d + i) (100 * e + j) n i j n)), nx) := by
  let MB : Nat → Nat → Option HO := fun k => va_up M (ma + 8) (d_A 800 (d_cp el (100 * d + i) (100 * e + j) n i j k))
  have hMB : ∀ k, d_MO (MB k) ma _ _ _ _ _ _ _ _ := fun k => (va_up_ne _ _ (by omega)).trans hM
  have hs : M = MB 0 := by
    funext q
    show M q = va_up M (ma + 8) (d_A 800 (d_cp el (100 * d + i) (100 * e + j) n i j 0)) q
    by_cases z : q = ma + 8
    · rw [z, va_up_self, h8]
      have : d_cp el (100 * d + i) (100 * e + j) n i j 0 = el := by
        funext x
        unfold d_cp
        by_cases c : i ≤ j
        · rw [if_pos c, if_neg (by omega)]
        · rw [if_neg c, if_neg (by omega)]
      rw [this]
    · rw [va_up_ne _ _ z]
  have key : iter (f11_copy_L122 ma (Int32.ofNat d) (Int32.ofNat i) (Int32.ofNat e) (Int32.ofNat j) (Int32.ofNat n)) FU (Int32.ofNat 0, (MB 0, nx)) = some (MB n, nx) := by
    refine d_for (fun k => (Int32.ofNat k, ((MB k, nx) : HM))) _ n 0 (by omega) (by omega) ?_ ?_
    · intro k _ hk
      unfold f11_copy_L122
      simp only [d_lef hk (by omega), if_false]
      have e100 : ∀ a b c : Nat, (Int8.ofInt 100).toInt32 * Int32.ofNat a + Int32.ofNat b + Int32.ofNat c = Int32.ofNat (100 * a + b + c) := fun a b c => by rw [d_100, d_ad]
      -- one step at an offset
      have step : ∀ at_ : Nat, at_ < n → d_cp el (100 * d + i) (100 * e + j) n i j k (100 * d + i + at_) = el (100 * d + i + at_) → upd (d_cp el (100 * d + i) (100 * e + j) n i j k) (100 * e + j + at_) (el (100 * d + i + at_)) = d_cp el (100 * d + i) (100 * e + j) n i j (k + 1) → f11_copy_K147 (MB k, nx) ma (Int32.ofNat d) (Int32.ofNat i) (Int32.ofNat e) (Int32.ofNat j) (Int32.ofNat n) (Int32.ofNat k) (Int32.ofNat at_) = some (.inl (Int32.ofNat (k + 1), (MB (k + 1), nx))) := by
        intro at_ hat h1 h2
        unfold f11_copy_K147
        simp only [n_7 (hMB k), obd, orf, e100, d_ild (MB k) (va_up_self _ _ _) (show 100 * d + i + at_ < 800 by omega) (by omega), h1]
        rw [d_ast (σ := (MB k, nx)) (va_up_self _ _ _) (show 100 * e + j + at_ < 800 by omega) (by omega)]
        simp only [d_su, h2]
        unfold hset
        simp only [MB, d_up_up]
      by_cases c : i ≤ j
      · rw [if_pos (show Int32.ofNat i ≤ Int32.ofNat j by rw [d_le (by omega) (by omega)]; exact c)]
        rw [show Int32.ofNat n - Int32.ofInt 1 - Int32.ofNat k = Int32.ofNat (n - 1 - k) by rw [Int32.ofNat_sub (n - 1) k (by omega), Int32.ofNat_sub n 1 (by omega)]; rfl]
        refine step (n - 1 - k) (by omega) ?_ ?_
        · unfold d_cp
          rw [if_pos c]
          split
          · rename_i c2
            have : d = e := by omega
            subst this
            omega
          · rfl
        · funext x
          unfold upd d_cp
          rw [if_pos c, if_pos c]
          by_cases z : x = 100 * e + j + (n - 1 - k)
          · rw [if_pos z, if_pos (by omega)]
            congr 1; omega
          · rw [if_neg z]
            by_cases z2 : 100 * e + j + (n - k) ≤ x ∧ x < 100 * e + j + n
            · rw [if_pos z2, if_pos (by omega)]
            · rw [if_neg z2, if_neg (by omega)]
      · rw [if_neg (show ¬ Int32.ofNat i ≤ Int32.ofNat j by rw [d_le (by omega) (by omega)]; exact c)]
        refine step k hk ?_ ?_
        · unfold d_cp
          rw [if_neg c]
          split
          · rename_i c2
            have : d = e := by omega
            subst this
            omega
          · rfl
        · funext x
          unfold upd d_cp
          rw [if_neg c, if_neg c]
          by_cases z : x = 100 * e + j + k
          · rw [if_pos z, if_pos (by omega)]
            congr 1; omega
          · rw [if_neg z]
            by_cases z2 : 100 * e + j ≤ x ∧ x < 100 * e + j + k
            · rw [if_pos z2, if_pos (by omega)]
            · rw [if_neg z2, if_neg (by omega)]
    · unfold f11_copy_L122
      simp only [d_let, if_true]
  rw [← hs] at key
  exact key
theorem sD_copy (a ma : Nat) : S_copy (d_R a ma) a ma := by
  intro X M nx p1 p2 p3 p4 p5 hR
  have hR0 := hR
  obtain ⟨hi, hX, ha, ⟨th, po, ba, en, lt, lp, sd, hM⟩, -, -, -, PS, RS, c, kp, so, sz, el, kk, kf, ⟨s1, s2⟩, ⟨t1, t2, t3, t4, t5, t6⟩, sh, dis⟩ := hR0
  have bad : ∀ (r : Int32) (fx : f10_copy (X, nx) a p1 p2 p3 p4 p5 = some (r, (X, nx))) (fm : f11_copy (M, nx) ma p1 p2 p3 p4 p5 = some (r, (M, nx))), ∃ (r : Int32) (X' : Nat → Option HO) (n' : Nat) (M' : Nat → Option HO) (n'' : Nat), f10_copy (X, nx) a p1 p2 p3 p4 p5 = some (r, (X', n')) ∧ f11_copy (M, n') ma p1 p2 p3 p4 p5 = some (r, (M', n'')) ∧ d_R a ma X' M' n'' := fun r fx fm => ⟨_, _, _, _, _, fx, fm, hR⟩
  have nt : ¬ true = false := by simp
  cases e1 : d_is 8 p1 with
  | false =>
    refine bad (Int32.ofInt (-1)) ?_ ?_
    · unfold f10_copy
      simp only [x_isShelf, e1, obd, d_i0, if_true]
    · unfold f11_copy
      simp only [m_isShelf, e1, obd, d_i0, if_true]
  | true =>
  obtain ⟨d, hd, rfl⟩ := d_is_n e1
  cases e3 : d_is 8 p3 with
  | false =>
    refine bad (Int32.ofInt (-1)) ?_ ?_
    · unfold f10_copy
      simp only [x_isShelf, e1, e3, obd, d_i0, if_true, if_neg nt]
    · unfold f11_copy
      simp only [m_isShelf, e1, e3, obd, d_i0, if_true, if_neg nt]
  | true =>
  obtain ⟨e, he, rfl⟩ := d_is_n e3
  have k10 : ¬ (1 : Int32) = 0 := by decide
  have k20 : ¬ (2 : Int32) = 0 := by decide
  have k12 : ¬ (1 : Int32) = Int32.ofInt 2 := by decide
  have k22 : (2 : Int32) = Int32.ofInt 2 := by decide
  rcases d_SH_RW (sh d hd) with ⟨b1, b2, b3⟩ | ⟨b1, b2, q, k, f, b3, b4, b5, b6, b7⟩ | ⟨b1, b2, r, t, m, g, b3, b4, b5, b6, b7, b8⟩
  · refine bad ((Int8.ofInt (-11)).toInt32) ?_ ?_
    · unfold f10_copy
      simp only [x_isShelf, e1, e3, obd, d_i0, if_neg nt, c_c hX, x_isBare hX s1 s2 hd, b2, b3]
      rfl
    · unfold f11_copy
      simp only [m_isShelf, e1, e3, obd, d_i0, if_neg nt, n_4 hM, orf, d_ild M t1 hd (show 8 ≤ 1000 by omega), b1, if_true]
  · rcases d_SH_RW (sh e he) with ⟨b1', b2', b3'⟩ | ⟨b1', b2', q', k', f', b3', -⟩ | ⟨b1', b2', r', t', m', g', b3', -⟩
    · refine bad ((Int8.ofInt (-11)).toInt32) ?_ ?_
      · unfold f10_copy
        simp only [x_isShelf, e1, e3, obd, d_i0, if_neg nt, c_c hX, x_isBare hX s1 s2 hd, x_isBare hX s1 s2 he, b2, b3, b2', b3']
        rfl
      · unfold f11_copy
        simp only [m_isShelf, e1, e3, obd, d_i0, if_neg nt, n_4 hM, orf, d_ild M t1 hd (show 8 ≤ 1000 by omega), d_ild M t1 he (show 8 ≤ 1000 by omega), b1, b1', if_true, if_neg k10]
    · refine bad ((Int8.ofInt (-12)).toInt32) ?_ ?_
      · unfold f10_copy
        simp only [x_isShelf, e1, e3, obd, d_i0, if_neg nt, c_c hX, x_isBare hX s1 s2 hd, x_isBare hX s1 s2 he, x_rowOn hX s2 hd, x_rowOn hX s2 he, b2, b3, b2', b3']
        rfl
      · unfold f11_copy
        simp only [m_isShelf, e1, e3, obd, d_i0, if_neg nt, n_4 hM, orf, d_ild M t1 hd (show 8 ≤ 1000 by omega), d_ild M t1 he (show 8 ≤ 1000 by omega), b1, b1', if_true, if_neg k10, if_neg k12]
    · refine bad ((Int8.ofInt (-12)).toInt32) ?_ ?_
      · unfold f10_copy
        simp only [x_isShelf, e1, e3, obd, d_i0, if_neg nt, c_c hX, x_isBare hX s1 s2 hd, x_isBare hX s1 s2 he, x_rowOn hX s2 hd, x_rowOn hX s2 he, b2, b3, b2', b3']
        rfl
      · unfold f11_copy
        simp only [m_isShelf, e1, e3, obd, d_i0, if_neg nt, n_4 hM, orf, d_ild M t1 hd (show 8 ≤ 1000 by omega), d_ild M t1 he (show 8 ≤ 1000 by omega), b1, b1', if_true, if_neg k10, if_neg k20, if_neg k12]
  · rcases d_SH_RW (sh e he) with ⟨b1', b2', b3'⟩ | ⟨b1', b2', q', k', f', b3', -⟩ | ⟨b1', b2', r', t', m', g', b3', b4', b5', b6', b7', b8'⟩
    · refine bad ((Int8.ofInt (-11)).toInt32) ?_ ?_
      · unfold f10_copy
        simp only [x_isShelf, e1, e3, obd, d_i0, if_neg nt, c_c hX, x_isBare hX s1 s2 hd, x_isBare hX s1 s2 he, b2, b3, b2', b3']
        rfl
      · unfold f11_copy
        simp only [m_isShelf, e1, e3, obd, d_i0, if_neg nt, n_4 hM, orf, d_ild M t1 hd (show 8 ≤ 1000 by omega), d_ild M t1 he (show 8 ≤ 1000 by omega), b1, b1', if_true, if_neg k20]
    · refine bad ((Int8.ofInt (-12)).toInt32) ?_ ?_
      · unfold f10_copy
        simp only [x_isShelf, e1, e3, obd, d_i0, if_neg nt, c_c hX, x_isBare hX s1 s2 hd, x_isBare hX s1 s2 he, x_rowOn hX s2 hd, x_rowOn hX s2 he, b2, b3, b2', b3']
        rfl
      · unfold f11_copy
        simp only [m_isShelf, e1, e3, obd, d_i0, if_neg nt, n_4 hM, orf, d_ild M t1 hd (show 8 ≤ 1000 by omega), d_ild M t1 he (show 8 ≤ 1000 by omega), b1, b1', if_true, if_neg k10, if_neg k20, if_neg k12, if_pos k22]
    · have hm1 := b5.2.2.1
      have hm2 := b5'.2.2.1
      -- down to the row objects
      have cx : f10_copy (X, nx) a (Int32.ofNat d) p2 (Int32.ofNat e) p4 p5 = (if Int32.ofNat t = Int32.ofNat t' then (if d_pl m p2 p5 = false then some ((Int8.ofInt (-13)).toInt32, (X, nx)) else if d_pl m' p4 p5 = false then some ((Int8.ofInt (-13)).toInt32, (X, nx)) else obd (hcpi (X, nx) (c d) p2 (c e) p4 p5) (fun s35 => some (p5, s35))) else some ((Int8.ofInt (-12)).toInt32, (X, nx))) := by
        unfold f10_copy
        simp only [x_isShelf, e1, e3, obd, d_i0, if_neg nt, c_c hX, x_isBare hX s1 s2 hd, x_isBare hX s1 s2 he, x_rowOn hX s2 hd, x_rowOn hX s2 he, b2, b3, b2', b3', va_rf, onl, r_0 b5, r_0 b5', r_c b5, r_c b5', r_places b5, r_places b5', r_1 b5, r_1 b5', orf, Option.isNone, Bool.true_and, Bool.and_true, Bool.and_false, Bool.false_and, if_true]
      have cm : f11_copy (M, nx) ma (Int32.ofNat d) p2 (Int32.ofNat e) p4 p5 = (if Int32.ofNat t = Int32.ofNat t' then (if p5 < 0 then (some ((Int8.ofInt (-13)).toInt32, (M, nx))) else (if p2 < 0 then (some ((Int8.ofInt (-13)).toInt32, (M, nx))) else (if p4 < 0 then (some ((Int8.ofInt (-13)).toInt32, (M, nx))) else if (Int32.ofNat m - p2) < p5 then (some ((Int8.ofInt (-13)).toInt32, (M, nx))) else if p5 ≤ (Int32.ofNat m' - p4) then (obd (iter (f11_copy_L122 ma (Int32.ofNat d) p2 (Int32.ofNat e) p4 p5) FU (Int32.ofInt 0, (M, nx))) (fun t122 => some (p5, t122))) else (some ((Int8.ofInt (-13)).toInt32, (M, nx)))))) else some ((Int8.ofInt (-12)).toInt32, (M, nx))) := by
        unfold f11_copy
        simp only [m_isShelf, e1, e3, obd, d_i0, if_neg nt, n_4 hM, n_5 hM, n_6 hM, orf, d_ild M t1 hd (show 8 ≤ 1000 by omega), d_ild M t1 he (show 8 ≤ 1000 by omega), d_ild M t2 hd (show 8 ≤ 1000 by omega), d_ild M t2 he (show 8 ≤ 1000 by omega), d_ild M t3 hd (show 8 ≤ 1000 by omega), d_ild M t3 he (show 8 ≤ 1000 by omega), b1, b1', b6, b6', b7, b7', if_neg k20, if_pos k22]
      by_cases ct : Int32.ofNat t = Int32.ofNat t'
      · rw [if_pos ct] at cx cm
        by_cases cp : d_pl m p2 p5 = true ∧ d_pl m' p4 p5 = true
        · obtain ⟨c1, c2⟩ := cp
          rw [c1, c2, if_neg nt, if_neg nt] at cx
          unfold d_pl at c1 c2
          rw [decide_eq_true_eq] at c1 c2
          obtain ⟨i, rfl⟩ : ∃ i, p2 = Int32.ofNat i := ⟨p2.toInt.toNat, by rw [← Int32.toInt_inj, d_tn (by omega)]; omega⟩
          obtain ⟨j, rfl⟩ : ∃ i, p4 = Int32.ofNat i := ⟨p4.toInt.toNat, by rw [← Int32.toInt_inj, d_tn (by omega)]; omega⟩
          obtain ⟨n, hn, rfl⟩ : ∃ i, i ≤ 100 ∧ p5 = Int32.ofNat i := ⟨p5.toInt.toNat, by omega, by rw [← Int32.toInt_inj, d_tn (by omega)]; omega⟩
          rw [d_tn (show n < 2147483648 by omega)] at c1 c2
          have i1 : (Int32.ofNat i).toInt.toNat + n ≤ m := by omega
          have j1 : (Int32.ofNat j).toInt.toNat + n ≤ m' := by omega
          have ie : Int32.ofNat i = Int32.ofNat (Int32.ofNat i).toInt.toNat := by rw [← Int32.toInt_inj, d_tn (show (Int32.ofNat i).toInt.toNat < 2147483648 by omega)]; omega
          have je : Int32.ofNat j = Int32.ofNat (Int32.ofNat j).toInt.toNat := by rw [← Int32.toInt_inj, d_tn (show (Int32.ofNat j).toInt.toNat < 2147483648 by omega)]; omega
          generalize (Int32.ofNat i).toInt.toNat = i' at i1 ie
          generalize (Int32.ofNat j).toInt.toNat = j' at j1 je
          rw [ie, je] at cx cm ⊢
          clear ie je c1 c2
          have nl : ∀ x : Nat, x < 2147483648 → ¬ Int32.ofNat x < 0 := fun x hx => by rw [Int32.lt_iff_toInt_lt, d_tn hx, d_z0]; omega
          rw [if_neg (nl n (by omega)), if_neg (nl i' (by omega)), if_neg (nl j' (by omega)), if_neg (by rw [Int32.lt_iff_toInt_lt, d_sub hm1 (nl i' (by omega)), d_tn (by omega), d_tn (by omega)]; omega), if_pos (by rw [Int32.le_iff_toInt_le, d_sub hm2 (nl j' (by omega)), d_tn (by omega), d_tn (by omega)]; omega), m_copy hM t4 hd he hm1 hm2 i1 j1] at cm
          rw [r_cpi b5.2.1 b5'.2.1 hm1 hm2 i1 j1] at cx
          refine ⟨_, _, _, _, _, cx, cm, ?_⟩
          have u : ∀ q, (∃ o, X q = some (.inl o)) → va_up X (c e) (d_A m' (va_cpy g g' i' j' n)) q = X q := fun q hq => va_up_ne _ _ (fun z => by obtain ⟨o, ho⟩ := hq; rw [z, b5'.2.1] at ho; cases ho)
          have u2 : ∀ q, q < a + 14 → va_up X (c e) (d_A m' (va_cpy g g' i' j' n)) q = X q := fun q hq => va_up_ne _ _ (by omega)
          refine d_R_shelf hR (Nat.le_refl _) (fun q _ hq => u q hq) (fun q hq => u2 q (by omega)) (fun q hq => va_up_ne _ _ (by omega)) ?_
          refine ⟨PS, RS, c, kp, so, sz, d_cp el (100 * d + i') (100 * e + j') n i' j' n, kk, kf, ⟨(u2 _ (by omega)).trans s1, (u2 _ (by omega)).trans s2⟩, ⟨(va_up_ne _ _ (by omega)).trans t1, (va_up_ne _ _ (by omega)).trans t2, (va_up_ne _ _ (by omega)).trans t3, va_up_self _ _ _, (va_up_ne _ _ (by omega)).trans t5, (va_up_ne _ _ (by omega)).trans t6⟩, fun y hy => ?_, dis⟩
          have out : ∀ x, ¬ (100 * e + j' ≤ x ∧ x < 100 * e + j' + n) → d_cp el (100 * d + i') (100 * e + j') n i' j' n x = el x := fun x hx => by
            unfold d_cp
            by_cases c : i' ≤ j'
            · rw [if_pos c, if_neg (by omega)]
            · rw [if_neg c, if_neg (by omega)]
          by_cases z : y = e
          · subst z
            rw [b2', b3']
            refine Or.inr (Or.inr ⟨b1', rfl, r', t', m', va_cpy g g' i' j' n, rfl, b4'.1, b4'.2.1, b4'.2.2.1, b4'.2.2.2, (u r' ⟨_, b5'.1⟩).trans b5'.1, va_up_self _ _ _, hm2, b5'.2.2.2, b6', b7', fun x hx => ?_⟩)
            unfold va_cpy
            by_cases w : j' ≤ x ∧ x < j' + n
            · rw [if_pos w, b8 _ (by omega)]
              unfold d_cp
              by_cases c : i' ≤ j'
              · rw [if_pos c, if_pos (by omega)]
                congr 1; omega
              · rw [if_neg c, if_pos (by omega)]
                congr 1; omega
            · rw [if_neg w, b8' x hx, out _ (by omega)]
          · exact d_SH_ch (sh y hy) (Nat.le_refl _) (fun q _ hq => u q hq) (fun h2 _ => va_up_ne _ _ (dis y e hy he z h2 b1')) rfl rfl rfl rfl rfl (fun x hx => out _ (by omega))
        · have cx' : f10_copy (X, nx) a (Int32.ofNat d) p2 (Int32.ofNat e) p4 p5 = some ((Int8.ofInt (-13)).toInt32, (X, nx)) := by
            rw [cx]
            cases h1 : d_pl m p2 p5 with
            | false => rfl
            | true =>
              cases h2 : d_pl m' p4 p5 with
              | false => rfl
              | true => exact absurd ⟨h1, h2⟩ cp
          have cm' : f11_copy (M, nx) ma (Int32.ofNat d) p2 (Int32.ofNat e) p4 p5 = some ((Int8.ofInt (-13)).toInt32, (M, nx)) := by
            rw [cm]
            by_cases g1 : p5 < 0
            · rw [if_pos g1]
            rw [if_neg g1]
            by_cases g2 : p2 < 0
            · rw [if_pos g2]
            rw [if_neg g2]
            by_cases g3 : p4 < 0
            · rw [if_pos g3]
            rw [if_neg g3]
            by_cases g4 : (Int32.ofNat m - p2) < p5
            · rw [if_pos g4]
            rw [if_neg g4, if_neg]
            intro g5
            apply cp
            rw [Int32.lt_iff_toInt_lt, d_sub hm1 g2] at g4
            rw [Int32.le_iff_toInt_le, d_sub hm2 g3] at g5
            rw [Int32.lt_iff_toInt_lt, d_z0] at g1 g2 g3
            unfold d_pl
            rw [decide_eq_true_eq, decide_eq_true_eq]
            omega
          exact bad _ cx' cm'
      · rw [if_neg ct] at cx cm
        exact bad _ cx cm
