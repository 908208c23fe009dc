/-! PURE: orphans, rings, round -/
def d_sumr (lo m : Nat) (t : Nat → Nat) : Nat := d_sum m (fun j => if lo ≤ j then t j else 0)
theorem d_sumr0 (lo : Nat) (t : Nat → Nat) : d_sumr lo lo t = 0 := d_sum_0 (fun i hi => if_neg (by omega))
theorem d_sumrs {lo m : Nat} (h : lo ≤ m) (t : Nat → Nat) : d_sumr lo (m + 1) t = d_sumr lo m t + t m := by
  show d_sum m _ + (if lo ≤ m then t m else 0) = _
  rw [if_pos h]; rfl
theorem d_acc {R : Type} {step : Int32 × Int32 → Option ((Int32 × Int32) ⊕ R)} (t : Nat → Nat) (o : Nat → R) (acc lo m : Nat) (hlo : lo ≤ m) (hm : m < 900000) (hb : ∀ s j, lo ≤ j → j < m → step (Int32.ofNat s, Int32.ofNat j) = some (.inl (Int32.ofNat (s + t j), Int32.ofNat (j + 1)))) (he : ∀ s, step (Int32.ofNat s, Int32.ofNat m) = some (.inr (o s))) : iter step FU (Int32.ofNat acc, Int32.ofNat lo) = some (o (acc + d_sumr lo m t)) := by
  have h := d_for (step := step) (fun i => (Int32.ofNat (acc + d_sumr lo i t), Int32.ofNat i)) (o (acc + d_sumr lo m t)) m lo hlo hm (fun i h1 h2 => by rw [hb _ i h1 h2, d_sumrs h1, Nat.add_assoc]) (he _)
  rw [d_sumr0] at h
  exact h
def d_FP (n : Nat) (K F : Nat → Nat) (B : Nat → Int32) (a b : Nat) (o : Int32) : Prop := (o = Int32.ofInt (-4) ∧ ∀ i j, i < j → j < n → (i < a ∨ i = a ∧ j < b) → d_or n K F B i j = false) ∨ ∃ i j, i < j ∧ j < n ∧ d_or n K F B i j = true ∧ (∀ i' j', i' < j' → j' < n → (i' < i ∨ i' = i ∧ j' < j) → d_or n K F B i' j' = false) ∧ o = Int32.ofNat (10 * i + j)
theorem d_FP_row {n : Nat} {K F : Nat → Nat} {B : Nat → Int32} {a : Nat} {o : Int32} (h : d_FP n K F B a n o) : d_FP n K F B (a + 1) (a + 2) o := by
  rcases h with ⟨e, h⟩ | h
  · exact Or.inl ⟨e, fun i j a1 a2 a3 => h i j a1 a2 (by omega)⟩
  · exact Or.inr h
theorem sD_orphans (a ma : Nat) : S_orphans (d_R a ma) a ma := fun X M n p1 hR => d_readA a ma (fun s => f10_orphans s a p1) (fun s => f11_orphans s ma p1) (by
  intro X M nx hi P K F n lw B S hX L G Z hS
  have hn : n ≤ 8 := L.2.2
  obtain ⟨o, h1, h2⟩ := x_first (nx := nx) L G.1
  have h3 : f2_orphanPairs (d_cB X (a + 2) B, nx) (a + 2) = some (Int32.ofNat (d_sum n (fun i => d_sumr (i + 1) n (fun j => (d_or n K F B i j).toNat)))) := by
    unfold f2_orphanPairs
    simp only [x_c L, x_counting L (fun i hi => d_TB_sm G.1 hn hi), obd]
    rw [show iter (f2_orphanPairs_L9 (d_cB X (a + 2) B, nx) (a + 2) (d_mk n (d_co K F B))) FU (Int32.ofInt 0, Int32.ofInt 0) = some (Int32.ofNat (d_sum n (fun i => d_sumr (i + 1) n (fun j => (d_or n K F B i j).toNat)))) from
      d_for (fun i => (Int32.ofNat (d_sum i (fun i => d_sumr (i + 1) n (fun j => (d_or n K F B i j).toNat))), Int32.ofNat i)) _ n 0 (by omega) (by omega) ?_ ?_]
    · intro i _ hi
      unfold f2_orphanPairs_L9
      simp only [x_n L, obd, d_lef hi (by omega), if_false, d_su]
      rw [d_acc (step := f2_orphanPairs_L22 (d_cB X (a + 2) B, nx) (a + 2) (d_mk n (d_co K F B)) (Int32.ofNat i)) (fun j => (d_or n K F B i j).toNat) Int32.ofNat _ (i + 1) n (by omega) (by omega) ?_ ?_]
      · rfl
      · intro s j h1 hj
        unfold f2_orphanPairs_L22
        simp only [x_n L, obd, d_lef hj (by omega), if_false, d_su, x_c L, x_masters L G.1 hi hj, d_mk_or hn]
        cases d_or n K F B i j <;> rfl
      · intro s
        unfold f2_orphanPairs_L22
        simp only [x_n L, obd, d_let, if_true]
    · unfold f2_orphanPairs_L9
      simp only [x_n L, obd, d_let, if_true]
  refine ⟨if p1 = 0 then Int32.ofNat (d_sum n (fun i => d_sumr (i + 1) n (fun j => (d_or n K F B i j).toNat))) else if p1 = 1 then o else Int32.ofInt (-1), ?_, fun k => ?_⟩
  · show f10_orphans _ _ _ = _
    unfold f10_orphans
    simp only [c_now hX, obd, orf, x_c L, h1, h3]
    repeat' split
    all_goals first | rfl | contradiction
  · show f11_orphans _ _ _ = _
    unfold f11_orphans
    simp only [isIn_e, obd]
    rw [Int32.toInt_toInt64, show (Int64.ofNat 0).toInt = 0 by decide, show (Int64.ofNat 1).toInt = 1 by decide]
    by_cases hp : 0 ≤ p1.toInt ∧ p1.toInt ≤ 1
    · rw [if_pos hp, if_neg (by decide)]
      obtain ⟨r, g1, g2⟩ := d_it (step := f11_orphans_L20 (d_mS M ma S, k) ma p1) (fun i w => ∃ fs, w = (Int32.ofNat (d_sum i (fun i => d_sumr (i + 1) n (fun j => (d_or n K F B i j).toNat))), fs, Int32.ofNat i) ∧ d_FP n K F B i (i + 1) fs) (fun r => ∃ fs, r = (Int32.ofNat (d_sum n (fun i => d_sumr (i + 1) n (fun j => (d_or n K F B i j).toNat))), fs) ∧ d_FP n K F B n (n + 1) fs) n (by
          rintro i w hi ⟨fs, rfl, hfs⟩
          unfold f11_orphans_L20
          simp only [m_f0 Z, obd, orf, m_ld0, hS.1, d_lef hi (by omega), if_false, d_su]
          obtain ⟨r, g1, g2⟩ := d_it (step := f11_orphans_L37 (d_mS M ma S, k) ma p1 (Int32.ofNat i)) (fun j w => ∃ fs, w = (Int32.ofNat (d_sum i (fun i => d_sumr (i + 1) n (fun j => (d_or n K F B i j).toNat)) + d_sumr (i + 1) j (fun j => (d_or n K F B i j).toNat)), fs, Int32.ofNat j) ∧ i < j ∧ d_FP n K F B i j fs) (fun r => ∃ fs, r = (Int32.ofNat (d_sum (i + 1) (fun i => d_sumr (i + 1) n (fun j => (d_or n K F B i j).toNat))), fs) ∧ d_FP n K F B i n fs) n (by
              rintro j w hj ⟨fs, rfl, hij, hfs⟩
              unfold f11_orphans_L37
              simp only [m_f0 Z, obd, orf, m_ld0, hS.1, d_lef hj (by omega), if_false, d_su, m_c Z, d_one_e (show i < 32 by omega), d_one_e (show j < 32 by omega), m_masters Z hS hn (d_LX_KF L) G.1 hi hj, d_mk_or hn, d_10]
              rw [d_sumrs (show i + 1 ≤ j by omega)]
              cases e : d_or n K F B i j with
              | true =>
                rcases hfs with ⟨e1, hfs⟩ | ⟨i0, j0, b1, b2, b3, b4, b5⟩
                · rw [if_pos rfl, if_neg (by rw [e1]; decide)]
                  exact Or.inl ⟨_, rfl, _, by rw [← Nat.add_assoc]; rfl, by omega, Or.inr ⟨i, j, hij, hj, e, fun i' j' c1 c2 c3 => hfs i' j' c1 c2 c3, rfl⟩⟩
                · rw [if_pos rfl, if_pos (by rw [b5, Int32.le_iff_toInt_le, d_tn (by omega), show (0 : Int32).toInt = 0 by decide]; omega)]
                  exact Or.inl ⟨_, rfl, _, by rw [← Nat.add_assoc]; rfl, by omega, Or.inr ⟨i0, j0, b1, b2, b3, b4, b5⟩⟩
              | false =>
                rw [if_neg (by simp)]
                refine Or.inl ⟨_, rfl, _, rfl, by omega, ?_⟩
                rcases hfs with ⟨e1, hfs⟩ | hfs
                · refine Or.inl ⟨e1, fun i' j' c1 c2 c3 => ?_⟩
                  by_cases q : i' = i ∧ j' = j
                  · rw [q.1, q.2]; exact e
                  · exact hfs i' j' c1 c2 (by omega)
                · exact Or.inr hfs) (by
              rintro w ⟨fs, rfl, hij, hfs⟩
              unfold f11_orphans_L37
              simp only [m_f0 Z, obd, orf, m_ld0, hS.1, d_let, if_true]
              exact ⟨_, rfl, _, rfl, hfs⟩) FU (i + 1) _ (by omega) (by unfold FU; omega) ⟨fs, rfl, by omega, hfs⟩
          rw [d_sumr0, Nat.add_zero] at g1
          rw [g1]
          obtain ⟨fs', rfl, hfs'⟩ := g2
          exact Or.inl ⟨_, rfl, fs', rfl, d_FP_row hfs'⟩) (by
          rintro w ⟨fs, rfl, hfs⟩
          unfold f11_orphans_L20
          simp only [m_f0 Z, obd, orf, m_ld0, hS.1, d_let, if_true]
          exact ⟨_, rfl, _, rfl, hfs⟩) FU 0 (Int32.ofInt 0, (Int8.ofInt (-4)).toInt32, Int32.ofInt 0) (by omega) (by unfold FU; omega) ⟨_, rfl, Or.inl ⟨by decide, fun i j a1 a2 a3 => by omega⟩⟩
      rw [g1]
      obtain ⟨fs, rfl, hfs⟩ := g2
      have : fs = o := d_FO_u (by
        rcases hfs with ⟨e, hfs⟩ | hfs
        · exact Or.inl ⟨e, fun i j a1 a2 => hfs i j a1 a2 (by omega)⟩
        · exact Or.inr hfs) h2
      rw [this]
      by_cases e0 : p1 = 0
      · rw [if_pos e0]; simp only [if_pos e0]
      · rw [if_neg e0, if_pos (Int32.toInt_inj.mp (by rw [show (1 : Int32).toInt = 1 by decide]; have : ¬ p1.toInt = 0 := fun q => e0 (Int32.toInt_inj.mp (q.trans (by decide))); omega))]
        simp only [if_neg e0]
    · rw [if_neg hp, if_pos (by decide), if_neg (fun e => hp (by rw [e]; decide)), if_neg (fun e => hp (by rw [e]; decide))]) X M n hR
/-! rings -/
def d_rg (B : Nat → Int32) (i j k : Nat) : Bool := (d_b (B j) k == d_b (B i) j) && (d_b (B k) i == d_b (B i) j)
theorem d_three : (List.range 256).all (fun x => (List.range 8).all (fun a => (List.range a).all (fun b => (List.range b).all (fun c => decide (d_pc (Int32.ofNat x &&& ((d_one a ||| d_one b) ||| d_one c)) = (d_b (Int32.ofNat x) a).toNat + (d_b (Int32.ofNat x) b).toNat + (d_b (Int32.ofNat x) c).toNat))))) = true := by decide +kernel
theorem d_3 {x : Int32} (hx : d_sm x) {i j k : Nat} (hi : i < 8) (hj : j < i) (hk : k < j) : d_pc (x &&& ((d_one i ||| d_one j) ||| d_one k)) = (d_b x i).toNat + (d_b x j).toNat + (d_b x k).toNat := by
  obtain ⟨v, hv, rfl⟩ := d_sm_n hx
  exact of_decide_eq_true (List.all_eq_true.mp (List.all_eq_true.mp (List.all_eq_true.mp (List.all_eq_true.mp d_three v (List.mem_range.mpr hv)) i (List.mem_range.mpr hi)) j (List.mem_range.mpr hj)) k (List.mem_range.mpr hk))
theorem d_sm_and {x : Int32} (hx : d_sm x) (y : Int32) : d_sm (x &&& y) := fun j hj => by rw [d_band, hx j hj]; rfl
theorem d_rg_sum (r : Nat → Nat → Nat → Nat) {n : Nat} (hn : n ≤ 7) : d_sum n (fun i => d_sumr (i + 1) n (fun j => d_sumr (j + 1) n (fun k => r i j k))) = d_sum n (fun i => d_sum i (fun j => d_sum j (fun k => r k j i))) := by
  rcases (show n = 0 ∨ n = 1 ∨ n = 2 ∨ n = 3 ∨ n = 4 ∨ n = 5 ∨ n = 6 ∨ n = 7 by omega) with rfl | rfl | rfl | rfl | rfl | rfl | rfl | rfl <;> simp [d_sum, d_sumr] <;> omega
theorem d_isRing {X : Nat → Option HO} {ad n nx : Nat} {P K F : Nat → Nat} {lw : Int32} {B : Nat → Int32} (L : d_LX X ad P K F n lw) {i j k : Nat} (hi : i < n) (hj : j < n) (hk : k < n) : f2_isRing (d_cB X ad B, nx) ad (Int32.ofNat i) (Int32.ofNat j) (Int32.ofNat k) = some (d_i (d_rg B i j k)) := by
  have hn := L.2.2
  unfold f2_isRing d_rg
  simp only [x_c L, x_hasBeaten L (show i < 8 by omega) (show j < 32 by omega), x_hasBeaten L (show j < 8 by omega) (show k < 32 by omega), x_hasBeaten L (show k < 8 by omega) (show i < 32 by omega), obd, d_ii]
  cases d_b (B i) j <;> cases d_b (B j) k <;> cases d_b (B k) i <;> simp <;> rfl
theorem sD_rings (a ma : Nat) : S_rings (d_R a ma) a ma := fun X M n hR => d_readA a ma (fun s => f10_rings s a) (fun s => f11_rings s ma) (by
  intro X M nx hi P K F n lw B S hX L G Z hS
  have hn : n ≤ 8 := L.2.2
  refine ⟨Int32.ofNat (d_sum n (fun i => d_sumr (i + 1) n (fun j => d_sumr (j + 1) n (fun k => (d_rg B i j k).toNat)))), ?_, fun k => ?_⟩
  · show f10_rings _ _ = _
    unfold f10_rings
    rw [show iter (f10_rings_L4 (d_cB X (a + 2) B, nx) a) FU (Int32.ofInt 0, Int32.ofInt 0) = some (Int32.ofNat (d_sum n (fun i => d_sumr (i + 1) n (fun j => d_sumr (j + 1) n (fun k => (d_rg B i j k).toNat))))) from
      d_for (fun i => (Int32.ofNat (d_sum i (fun i => d_sumr (i + 1) n (fun j => d_sumr (j + 1) n (fun k => (d_rg B i j k).toNat)))), Int32.ofNat i)) _ n 0 (by omega) (by omega) ?_ ?_]
    · rfl
    · intro i _ hi
      unfold f10_rings_L4
      simp only [c_now hX, obd, orf, x_n L, d_lef hi (by omega), if_false, d_su]
      rw [d_acc (step := f10_rings_L19 (d_cB X (a + 2) B, nx) a (Int32.ofNat i)) (fun j => d_sumr (j + 1) n (fun k => (d_rg B i j k).toNat)) Int32.ofNat _ (i + 1) n (by omega) (by omega) ?_ ?_]
      · rfl
      · intro s j h1 hj
        unfold f10_rings_L19
        simp only [c_now hX, obd, orf, x_n L, d_lef hj (by omega), if_false, d_su]
        rw [d_acc (step := f10_rings_L35 (d_cB X (a + 2) B, nx) a (Int32.ofNat i) (Int32.ofNat j)) (fun k => (d_rg B i j k).toNat) Int32.ofNat _ (j + 1) n (by omega) (by omega) ?_ ?_]
        · intro s k h2 hk
          unfold f10_rings_L35
          simp only [c_now hX, obd, orf, x_n L, d_lef hk (by omega), if_false, d_su, x_c L, d_isRing L hi hj hk, d_i0]
          cases d_rg B i j k <;> rfl
        · intro s
          unfold f10_rings_L35
          simp only [c_now hX, obd, orf, x_n L, d_let, if_true]
      · intro s
        unfold f10_rings_L19
        simp only [c_now hX, obd, orf, x_n L, d_let, if_true]
    · unfold f10_rings_L4
      simp only [c_now hX, obd, orf, x_n L, d_let, if_true]
  · show f11_rings _ _ = _
    rw [d_rg_sum (fun i j k => (d_rg B i j k).toNat) G.2.1]
    unfold f11_rings
    rw [show iter (f11_rings_L4 (d_mS M ma S, k) ma) FU (Int32.ofInt 0, Int32.ofInt 0) = some (Int32.ofNat (d_sum n (fun i => d_sum i (fun j => d_sum j (fun k => (d_rg B k j i).toNat))))) from
      d_for (fun i => (Int32.ofNat (d_sum i (fun i => d_sum i (fun j => d_sum j (fun k => (d_rg B k j i).toNat)))), Int32.ofNat i)) _ n 0 (by omega) (by omega) ?_ ?_]
    · rfl
    · intro i _ hi
      unfold f11_rings_L4
      simp only [m_f0 Z, obd, orf, m_ld0, hS.1, d_lef hi (by omega), if_false, d_su]
      rw [show iter (f11_rings_L16 (d_mS M ma S, k) ma (Int32.ofNat i)) FU (Int32.ofNat (d_sum i (fun i => d_sum i (fun j => d_sum j (fun k => (d_rg B k j i).toNat)))), Int32.ofInt 0) = some (Int32.ofNat (d_sum i (fun i => d_sum i (fun j => d_sum j (fun k => (d_rg B k j i).toNat))) + d_sum i (fun j => d_sum j (fun k => (d_rg B k j i).toNat)))) from
        d_for (fun j => (Int32.ofNat (d_sum i (fun i => d_sum i (fun j => d_sum j (fun k => (d_rg B k j i).toNat))) + d_sum j (fun j => d_sum j (fun k => (d_rg B k j i).toNat))), Int32.ofNat j)) _ i 0 (by omega) (by omega) ?_ ?_]
      · rfl
      · intro j _ hj
        unfold f11_rings_L16
        simp only [d_lef hj (by omega), if_false, d_su]
        rw [show iter (f11_rings_L24 (d_mS M ma S, k) ma (Int32.ofNat i) (Int32.ofNat j)) FU (Int32.ofNat (d_sum i (fun i => d_sum i (fun j => d_sum j (fun k => (d_rg B k j i).toNat))) + d_sum j (fun j => d_sum j (fun k => (d_rg B k j i).toNat))), Int32.ofInt 0) = some (Int32.ofNat (d_sum i (fun i => d_sum i (fun j => d_sum j (fun k => (d_rg B k j i).toNat))) + d_sum j (fun j => d_sum j (fun k => (d_rg B k j i).toNat)) + d_sum j (fun k => (d_rg B k j i).toNat))) from
          d_for (fun q => (Int32.ofNat (d_sum i (fun i => d_sum i (fun j => d_sum j (fun k => (d_rg B k j i).toNat))) + d_sum j (fun j => d_sum j (fun k => (d_rg B k j i).toNat)) + d_sum q (fun k => (d_rg B k j i).toNat)), Int32.ofNat q)) _ j 0 (by omega) (by omega) ?_ ?_]
        · simp only [obd]
          show some (Sum.inl (_, _)) = some (Sum.inl (Int32.ofNat (_ + (_ + _)), _))
          rw [← Nat.add_assoc]
        · intro q _ hq
          unfold f11_rings_L24
          have T := G.1
          simp only [d_lef hq (by omega), if_false, d_su, m_c Z, obd, m_beaten Z (show i < 8 by omega), m_beaten Z (show j < 8 by omega), m_beaten Z (show q < 8 by omega), (hS.2.2 i hi).2.2, (hS.2.2 j (by omega)).2.2, (hS.2.2 q (by omega)).2.2, d_one_e (show i < 32 by omega), d_one_e (show j < 32 by omega), d_one_e (show q < 32 by omega), d_pcm (d_sm_and (d_TB_sm T hn hi) _), d_pcm (d_sm_and (d_TB_sm T hn (show j < n by omega)) _), d_pcm (d_sm_and (d_TB_sm T hn (show q < n by omega)) _), d_3 (d_TB_sm T hn hi) (show i < 8 by omega) hj hq, d_3 (d_TB_sm T hn (show j < n by omega)) (show i < 8 by omega) hj hq, d_3 (d_TB_sm T hn (show q < n by omega)) (show i < 8 by omega) hj hq, T.2.1 i hi, T.2.1 j (show j < n by omega), T.2.1 q (show q < n by omega), T.2.2 i j hi (show j < n by omega) (by omega), T.2.2 i q hi (show q < n by omega) (by omega), T.2.2 j q (show j < n by omega) (show q < n by omega) (by omega)]
          show _ = some (Sum.inl (Int32.ofNat (_ + (d_sum q (fun k => (d_rg B k j i).toNat) + (d_rg B q j i).toNat)), _))
          rw [← Nat.add_assoc]
          have e : d_rg B q j i = (((!d_b (B i) j) == (!d_b (B j) q)) && (d_b (B i) q == (!d_b (B j) q))) := by
            unfold d_rg
            rw [T.2.2 j q (show j < n by omega) (show q < n by omega) (by omega), T.2.2 i j hi (show j < n by omega) (by omega)]
          rw [e]
          generalize d_sum i _ + d_sum j _ + d_sum q _ = s1
          have c0 : (Int32.ofNat 0 = Int32.ofInt 1) = False := by decide
          have c1 : (Int32.ofNat 1 = Int32.ofInt 1) = True := by decide
          have c2 : (Int32.ofNat 2 = Int32.ofInt 1) = False := by decide
          cases d_b (B j) q <;> cases d_b (B i) j <;> cases d_b (B i) q <;> (simp only [Bool.not_false, Bool.not_true, Bool.toNat_false, Bool.toNat_true, Nat.reduceAdd, c0, c1, c2, if_true, if_false, d_su0]; rfl)
        · unfold f11_rings_L24
          simp only [d_let, if_true]
      · unfold f11_rings_L16
        simp only [d_let, if_true]
    · unfold f11_rings_L4
      simp only [m_f0 Z, obd, orf, m_ld0, hS.1, d_let, if_true]) X M n hR
