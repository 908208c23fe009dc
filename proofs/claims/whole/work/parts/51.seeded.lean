/-! PURE: seeded -/
theorem d_z16 (z : Int32) : (z &&& 2147483647) >>> (((Int8.ofInt 16).toInt32) &&& 31) = (z &&& 2147483647) / 65536 := by
  have hm : (z &&& 2147483647).toBitVec.msb = false := by
    rw [BitVec.msb_eq_getLsbD_last]
    show d_b (z &&& 2147483647) 31 = false
    rw [d_band, show d_b 2147483647 31 = false by decide +kernel]; simp
  apply Int32.toBitVec_inj.mp
  rw [show ((Int8.ofInt 16).toInt32) = Int32.ofNat 16 by decide, d_sh (show 16 < 32 by omega), Int32.toBitVec_shiftRight, BitVec.sshiftRight', d_smod (show 16 < 32 by omega), Int32.toBitVec_div]
  generalize (z &&& 2147483647).toBitVec = y at hm ⊢
  rw [BitVec.sshiftRight_eq_of_msb_false hm, show (65536 : Int32).toBitVec = 65536#32 from rfl]
  unfold BitVec.sdiv
  rw [hm, show (65536#32).msb = false by decide]
  apply BitVec.eq_of_toNat_eq
  simp [Nat.shiftRight_eq_div_pow]
abbrev d_nz (z : Int32) : Int32 := z * 1103515245 + (Int16.ofInt 12345).toInt32
def d_dr (m : Nat) (z : Int32) : Int32 := (z &&& 2147483647) / 65536 - (z &&& 2147483647) / 65536 / Int32.ofNat m * Int32.ofNat m
theorem d_pos {m : Nat} (h1 : 1 ≤ m) (h2 : m < 1000) : ¬ Int32.ofNat m ≤ 0 ∧ ¬ Int32.ofNat m = 0 := by
  have e : ¬ Int32.ofNat m ≤ 0 := by
    rw [Int32.le_iff_toInt_le, d_tn (by omega), d_z0]; omega
  refine ⟨e, fun q => e ?_⟩
  rw [q]; decide
theorem x_draw {m : Nat} (h1 : 1 ≤ m) (h2 : m < 1000) (z : Int32) : f2_drawBelow (Int32.ofNat m) z = some (d_dr m z) := by
  unfold f2_drawBelow
  rw [if_neg (d_pos h1 h2).1, onz, if_neg (d_pos h1 h2).2, d_z16]
  rfl
theorem d_skl {k f : Nat} (hk : k < 8) (hf : f < 10) : 1 ≤ d_skill k f ∧ d_skill k f ≤ 20 := (show ∀ k, k < 8 → ∀ f, f < 10 → 1 ≤ d_skill k f ∧ d_skill k f ≤ 20 by decide) k hk f hf
abbrev d_sk (K F : Nat → Nat) (i : Nat) : Nat := d_skill (K i) (F i)
/-- a match by a draw -/
def d_sp (K F : Nat → Nat) (i j : Nat) (st : (Nat → Int32) × Int32) : (Nat → Int32) × Int32 := (if Int32.ofNat (d_sk K F i) ≤ d_dr (d_sk K F i + d_sk K F j) (d_nz st.2) then d_win st.1 j i else d_win st.1 i j, d_nz st.2)
def d_sr (K F : Nat → Nat) (i : Nat) (st : (Nat → Int32) × Int32) : Nat → (Nat → Int32) × Int32
  | 0 => st
  | m + 1 => d_sp K F i (i + 1 + m) (d_sr K F i st m)
def d_sn (K F : Nat → Nat) (n : Nat) (st : (Nat → Int32) × Int32) : Nat → (Nat → Int32) × Int32
  | 0 => st
  | i + 1 => d_sr K F i (d_sn K F n st i) (n - (i + 1))
def d_ss (K F : Nat → Nat) (n : Nat) (lw : Int32) (st : (Nat → Int32) × Int32) : Nat → ((Nat → Int32) × Int32) × Nat
  | 0 => (st, 0)
  | k + 1 => (d_sn K F n (d_ss K F n lw st k).1 n, (d_ss K F n lw st k).2 + (d_lw n K F (d_sn K F n (d_ss K F n lw st k).1 n).1 lw).toNat)
theorem d_sr_s (K F : Nat → Nat) {i j : Nat} (h : i + 1 ≤ j) (st : (Nat → Int32) × Int32) : d_sr K F i st (j + 1 - (i + 1)) = d_sp K F i j (d_sr K F i st (j - (i + 1))) := by
  rw [show j + 1 - (i + 1) = (j - (i + 1)) + 1 by omega]
  show d_sp K F i (i + 1 + (j - (i + 1))) _ = _
  rw [show i + 1 + (j - (i + 1)) = j by omega]
theorem d_sr_TB {K F : Nat → Nat} {n i : Nat} (hn : n ≤ 8) (st : (Nat → Int32) × Int32) (T : d_TB n st.1) : ∀ m, i + m < n → d_TB n (d_sr K F i st m).1
  | 0, _ => T
  | m + 1, h => by
    have ih := d_sr_TB (K := K) (F := F) (i := i) hn st T m (by omega)
    show d_TB n (if _ then d_win (d_sr K F i st m).1 (i + 1 + m) i else d_win (d_sr K F i st m).1 i (i + 1 + m))
    split
    · exact d_TB_win hn ih (by omega) (by omega) (by omega)
    · exact d_TB_win hn ih (by omega) (by omega) (by omega)
theorem d_sn_TB {K F : Nat → Nat} {n : Nat} (hn : n ≤ 8) (st : (Nat → Int32) × Int32) (T : d_TB n st.1) : ∀ i, i ≤ n → d_TB n (d_sn K F n st i).1
  | 0, _ => T
  | i + 1, h => d_sr_TB hn _ (d_sn_TB hn st T i (by omega)) _ (by omega)
theorem d_ss_TB {K F : Nat → Nat} {n : Nat} {lw : Int32} (hn : n ≤ 8) (st : (Nat → Int32) × Int32) (T : d_TB n st.1) : ∀ k, d_TB n (d_ss K F n lw st k).1.1
  | 0 => T
  | k + 1 => d_sn_TB hn _ (d_ss_TB hn st T k) n (Nat.le_refl _)
section XSEED
variable {X : Nat → Option HO} {ad n nx : Nat} {P K F : Nat → Nat} {lw : Int32}
theorem x_season (L : d_LX X ad P K F n lw) (st : (Nat → Int32) × Int32) : f2_playSeason (d_cB X ad st.1, nx) ad st.2 = some ((d_sn K F n st n).2, (d_cB X ad (d_sn K F n st n).1, nx)) := by
  have hn := L.2.2
  have skl : ∀ i, i < 8 → 1 ≤ d_sk K F i ∧ d_sk K F i ≤ 20 := fun i hi => d_skl (L.2.1 i hi).1.2.1 (L.2.1 i hi).1.2.2
  unfold f2_playSeason
  rw [show iter (f2_playSeason_L4 ad) FU (st.2, Int32.ofInt 0, (d_cB X ad st.1, nx)) = some ((d_sn K F n st n).2, ((d_cB X ad (d_sn K F n st n).1, nx) : HM)) from
    d_for (fun i => ((d_sn K F n st i).2, Int32.ofNat i, ((d_cB X ad (d_sn K F n st i).1, nx) : HM))) _ n 0 (by omega) (by omega) ?_ ?_]
  · rfl
  · intro i _ hi
    unfold f2_playSeason_L4
    simp only [x_n L, obd, d_lef hi (by omega), if_false, d_su]
    rw [show iter (f2_playSeason_L17 ad (Int32.ofNat i)) FU ((d_sn K F n st i).2, Int32.ofNat (i + 1), (d_cB X ad (d_sn K F n st i).1, nx)) = some ((d_sn K F n st (i + 1)).2, ((d_cB X ad (d_sn K F n st (i + 1)).1, nx) : HM)) from ?_]
    have := d_for (step := f2_playSeason_L17 ad (Int32.ofNat i)) (fun j => ((d_sr K F i (d_sn K F n st i) (j - (i + 1))).2, Int32.ofNat j, ((d_cB X ad (d_sr K F i (d_sn K F n st i) (j - (i + 1))).1, nx) : HM))) ((d_sn K F n st (i + 1)).2, ((d_cB X ad (d_sn K F n st (i + 1)).1, nx) : HM)) n (i + 1) (by omega) (by omega) (by
      intro j h1 hj
      unfold f2_playSeason_L17
      have s1 : 1 ≤ d_skill (K i) (F i) ∧ d_skill (K i) (F i) ≤ 20 := skl i (by omega)
      have s2 : 1 ≤ d_skill (K j) (F j) ∧ d_skill (K j) (F j) ≤ 20 := skl j (by omega)
      simp only [x_n L, obd, d_lef hj (by omega), if_false, x_f0 L, orf, x_p L (show i < 8 by omega), x_p L (show j < 8 by omega), d_vskill (x_pe L (show i < 8 by omega)), d_vskill (x_pe L (show j < 8 by omega)), d_ad, x_draw (show 1 ≤ d_skill (K i) (F i) + d_skill (K j) (F j) by omega) (show d_skill (K i) (F i) + d_skill (K j) (F j) < 1000 by omega), x_c L, x_win L (show i < 8 by omega) (show j < 8 by omega), x_win L (show j < 8 by omega) (show i < 8 by omega), d_su, d_sr_s K F h1]
      unfold d_sp
      by_cases c : Int32.ofNat (d_sk K F i) ≤ d_dr (d_sk K F i + d_sk K F j) (d_nz (d_sr K F i (d_sn K F n st i) (j - (i + 1))).2)
      · simp only [if_pos c]
      · simp only [if_neg c]) (by
      unfold f2_playSeason_L17
      simp only [x_n L, obd, d_let, if_true]
      rfl)
    rw [show i + 1 - (i + 1) = 0 by omega] at this
    exact this
  · unfold f2_playSeason_L4
    simp only [x_n L, obd, d_let, if_true]
end XSEED
