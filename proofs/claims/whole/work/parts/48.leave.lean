/-! PURE: who leaves -/
section BEGINS
variable {M : Nat → Option HO} {ma nx : Nat} {hi th po ba en lt lp sd : Int32} {S T : Nat → Int32}
def d_ov (S T : Nat → Int32) : Nat → Int32 := fun j => if j < 26 then S j else T j
theorem d_ov_i {S T : Nat → Int32} : ∀ i, i < 26 → d_ov S T i = S i := fun i hi => if_pos hi
theorem m_begins (h : d_MO M ma hi th po ba en lt lp sd) (h1 : M (ma + 1) = d_A 26 S) (h4 : M (ma + 4) = d_A 26 T) : f11_begins (M, nx) ma = some (va_up M (ma + 4) (d_A 26 (d_ov S T)), nx) := by
  unfold f11_begins
  have z0 : hfld (M, nx) [11] 0 ma = some (.ref (ma + 1)) := n_f h
  have z3 : hfld (M, nx) [11] 3 ma = some (.ref (ma + 4)) := n_f h
  simp only [z0, z3, obd, orf, m_lays (nx := nx) h1 h4 (by omega)]
  rfl
theorem m_ends (h : d_MO M ma hi th po ba en lt lp sd) (h4 : M (ma + 4) = d_A 26 T) : f11_ends (d_mS M ma S, nx) ma = some (d_mS M ma (d_ov T S), nx) := by
  have h' : d_MO (d_mS M ma S) ma hi th po ba en lt lp sd := d_mS_0.trans h
  unfold f11_ends
  have z0 : hfld (d_mS M ma S, nx) [11] 0 ma = some (.ref (ma + 1)) := n_f h'
  have z3 : hfld (d_mS M ma S, nx) [11] 3 ma = some (.ref (ma + 4)) := n_f h'
  simp only [z0, z3, obd, orf, m_lays (nx := nx) (M := d_mS M ma S) ((d_mS_ne (by omega)).trans h4) d_mS_at (by omega)]
  show some (va_up (va_up M (ma + 1) _) (ma + 1) _, nx) = _
  rw [d_up_up]
  rfl
end BEGINS
def d_rm {α : Type} (n l : Nat) (f : Nat → α) : Nat → α := fun i => if l ≤ i ∧ i + 1 < n then f (i + 1) else f i
def d_ah (l : Nat) : Int32 := d_one l - Int32.ofInt 1
def d_shl (l : Nat) (x : Int32) : Int32 := (x &&& d_ah l) ||| ((x >>> (Int32.ofInt 1 &&& 31)) &&& (d_ah l ^^^ Int32.ofInt (-1)))
def d_uB (n l : Nat) (B : Nat → Int32) : Nat → Int32 := fun i => if i + 1 < n then d_shl l (d_rm n l B i) else d_rm n l B i
theorem d_ahb {l j : Nat} (h : l < 9) (hj : j < 32) : d_b (d_ah l) j = decide (j < l) :=
  (show ∀ l, l < 9 → ∀ j, j < 32 → d_b (d_ah l) j = decide (j < l) by decide +kernel) l h j hj
theorem d_shlb {l j : Nat} (h : l < 9) (hj : j < 31) (x : Int32) : d_b (d_shl l x) j = d_b x (if j < l then j else j + 1) := by
  unfold d_shl
  rw [d_bor, d_band, d_band, d_bnot _ (by omega), d_ahb h (by omega), show Int32.ofInt 1 = Int32.ofNat 1 from rfl, d_bsr x (show 1 < 32 by omega) (by omega)]
  by_cases c : j < l
  · rw [if_pos c]; simp [c]
  · rw [if_neg c]; simp [c]
theorem d_shl_31 {l : Nat} (h : l < 9) {x : Int32} (hx : d_sm x) : d_b (d_shl l x) 31 = false := by
  unfold d_shl
  rw [d_bor, d_band, d_band, d_bnot _ (by omega), d_ahb h (by omega), hx 31 (by omega)]
  rw [d_sh (show 1 < 32 by omega) |> fun e => (show Int32.ofInt 1 &&& 31 = Int32.ofNat 1 from e)]
  have : d_b (x >>> Int32.ofNat 1) 31 = false := by
    unfold d_b
    rw [Int32.toBitVec_shiftRight, BitVec.sshiftRight', d_smod (show 1 < 32 by omega), BitVec.getLsbD_sshiftRight, if_neg (by omega), BitVec.msb_eq_getLsbD_last]
    have : x.toBitVec.getLsbD 31 = false := hx 31 (by omega)
    have t2 : x.toBitVec[31] = false := by rw [← BitVec.getLsbD_eq_getElem]; exact this
    simp [t2]
  rw [this]; simp
theorem d_uBb {n l : Nat} {B : Nat → Int32} (hn : n ≤ 8) (hl : l < n) (T : d_TB n B) {i : Nat} (hi : i + 1 < n) (j : Nat) : d_b (d_uB n l B i) j = d_b (B (if i < l then i else i + 1)) (if j < l then j else j + 1) := by
  have e : d_rm n l B i = B (if i < l then i else i + 1) := by
    unfold d_rm
    by_cases c : i < l
    · rw [if_neg (by omega), if_pos c]
    · rw [if_pos (by omega), if_neg c]
  have hs : d_sm (B (if i < l then i else i + 1)) := d_TB_sm T hn (by split <;> omega)
  unfold d_uB
  rw [if_pos hi, e]
  by_cases c : j < 31
  · exact d_shlb (by omega) c _
  · by_cases c2 : j = 31
    · rw [c2, d_shl_31 (by omega) hs, if_neg (show ¬ 31 < l by omega)]
      exact (hs (31 + 1) (by omega)).symm
    · rw [d_b32 _ (by omega), if_neg (show ¬ j < l by omega)]
      exact (hs (j + 1) (by omega)).symm
theorem d_TB_un {n l : Nat} {B : Nat → Int32} (hn : n ≤ 8) (hl : l < n) (T : d_TB n B) : d_TB (n - 1) (d_uB n l B) := by
  refine ⟨fun i hi j hj => ?_, fun i hi => ?_, fun i j hi hj e => ?_⟩
  · rw [d_uBb hn hl T (by omega)]
    exact T.1 _ (by split <;> omega) _ (by split <;> omega)
  · rw [d_uBb hn hl T (by omega)]
    exact T.2.1 _ (by split <;> omega)
  · rw [d_uBb hn hl T (by omega), d_uBb hn hl T (by omega)]
    exact T.2.2 _ _ (by split <;> omega) (by split <;> omega) (by split <;> split <;> omega)
theorem x_unseat {a nx : Nat} {X : Nat → Option HO} {ad n l : Nat} {P K F : Nat → Nat} {lw : Int32} {B : Nat → Int32} (G : d_LG a nx X ad P K F n lw B) (hl : l < n) (ha : ∀ k, k ≤ 2 → ¬ d_ok a nx (ad + k)) (n1 : Nat) :
    ∃ X', f2_unseat (X, n1) ad (Int32.ofNat l) = some (X', n1) ∧ d_LG a nx X' ad (d_rm n l P) (d_rm n l K) (d_rm n l F) (n - 1) lw (d_uB n l B) ∧ ∀ p, p ≠ ad → p ≠ ad + 1 → p ≠ ad + 2 → X' p = X p := by
  obtain ⟨L, hB, hP⟩ := G
  have np : ∀ i, i < 8 → P i ≠ ad ∧ P i ≠ ad + 1 ∧ P i ≠ ad + 2 := fun i hi => ⟨fun e => ha 0 (by omega) (by rw [Nat.add_zero, ← e]; exact hP i hi), fun e => ha 1 (by omega) (by rw [← e]; exact hP i hi), fun e => ha 2 (by omega) (by rw [← e]; exact hP i hi)⟩
  have L0 := L
  obtain ⟨⟨b1, PA, b2, b3⟩, b4, hn⟩ := L
  let PAi : Nat → Nat → Option Nat := fun i j => if l ≤ j ∧ j < i then PA (j + 1) else PA j
  let Bi : Nat → Nat → Int32 := fun i j => if l ≤ j ∧ j < i then B (j + 1) else B j
  let XX : (Nat → Option Nat) → (Nat → Int32) → Nat → Option HO := fun PA B => va_up (va_up X (ad + 1) (some (.inr (.inr (false, 8, PA))))) (ad + 2) (d_A 8 B)
  have xx0 : ∀ PA B, XX PA B ad = some (.inl (2, [.ref (ad + 1), .ref (ad + 2), .int (Int32.ofNat n), .int lw])) := fun PA B => (va_up_ne _ _ (by omega)).trans ((va_up_ne _ _ (by omega)).trans b1)
  have xx1 : ∀ PA B, XX PA B (ad + 1) = some (.inr (.inr (false, 8, PA))) := fun PA B => (va_up_ne _ _ (by omega)).trans (va_up_self _ _ _)
  have xx2 : ∀ PA B, XX PA B (ad + 2) = d_A 8 B := fun PA B => va_up_self _ _ _
  have xxp : ∀ PA B q, q ≠ ad + 1 → q ≠ ad + 2 → XX PA B q = X q := fun PA B q h1 h2 => (va_up_ne _ _ h2).trans (va_up_ne _ _ h1)
  have e0 : XX (PAi l) (Bi l) = X := by
    have p1 : PAi l = PA := by funext j; show (if l ≤ j ∧ j < l then _ else PA j) = PA j; rw [if_neg (by omega)]
    have p2 : Bi l = B := by funext j; show (if l ≤ j ∧ j < l then _ else B j) = B j; rw [if_neg (by omega)]
    rw [p1, p2]
    funext q
    show va_up (va_up X (ad + 1) _) (ad + 2) _ q = X q
    by_cases z2 : q = ad + 2
    · rw [z2, va_up_self, hB]
    · rw [va_up_ne _ _ z2]
      by_cases z1 : q = ad + 1
      · rw [z1, va_up_self, b2]
      · rw [va_up_ne _ _ z1]
  have lp1 : iter (f2_unseat_L11 ad (Int32.ofNat l)) FU (Int32.ofNat l, (X, n1)) = some (XX (PAi (n - 1)) (Bi (n - 1)), n1) := by
    have := d_for (step := f2_unseat_L11 ad (Int32.ofNat l)) (fun i => (Int32.ofNat i, ((XX (PAi i) (Bi i), n1) : HM))) (XX (PAi (n - 1)) (Bi (n - 1)), n1) (n - 1) l (by omega) (by omega) (by
      intro i h1 hi
      have g1 : hfi (XX (PAi i) (Bi i), n1) [2] 2 ad = some (Int32.ofNat n) := d_hfi (σ := (XX (PAi i) (Bi i), n1)) (xx0 _ _) rfl rfl
      have g2 : hfld (XX (PAi i) (Bi i), n1) [2] 0 ad = some (.ref (ad + 1)) := d_hfld (σ := (XX (PAi i) (Bi i), n1)) (xx0 _ _) rfl
      have pi1 : PAi i (i + 1) = some (P (i + 1)) := by
        show (if l ≤ i + 1 ∧ i + 1 < i then _ else PA (i + 1)) = _
        rw [if_neg (by omega)]; exact b3 (i + 1) (by omega)
      have g3 : hrld (XX (PAi i) (Bi i), n1) (ad + 1) (Int32.ofNat (i + 1)) = some (.ref (P (i + 1))) := by
        rw [d_rld (xx1 _ _) (show i + 1 < 8 by omega), pi1]; rfl
      have g4 : hrst (XX (PAi i) (Bi i), n1) (ad + 1) (Int32.ofNat i) (.ref (P (i + 1))) = some (XX (PAi (i + 1)) (Bi i), n1) := by
        rw [d_rst1 (σ := (XX (PAi i) (Bi i), n1)) (c := d_kc (K (i + 1))) (xx1 _ _) (show i < 8 by omega) (d_hcls (σ := (XX (PAi i) (Bi i), n1)) ((xxp _ _ _ (np _ (by omega)).2.1 (np _ (by omega)).2.2).trans (b4 (i + 1) (by omega)).1.1)) (d_kc_P (b4 (i + 1) (by omega)).1.2.1)]
        have pe : va_up (PAi i) i (some (P (i + 1))) = PAi (i + 1) := by
          funext j
          by_cases z : j = i
          · rw [z, va_up_self]
            show _ = if l ≤ i ∧ i < i + 1 then PA (i + 1) else PA i
            rw [if_pos (by omega)]; exact (b3 (i + 1) (by omega)).symm
          · rw [va_up_ne _ _ z]
            show (if l ≤ j ∧ j < i then PA (j + 1) else PA j) = if l ≤ j ∧ j < i + 1 then PA (j + 1) else PA j
            by_cases z2 : l ≤ j ∧ j < i
            · rw [if_pos z2, if_pos (by omega)]
            · rw [if_neg z2, if_neg (by omega)]
        rw [pe]
        unfold hset
        congr 2
        funext q
        show va_up (va_up (va_up X (ad + 1) _) (ad + 2) _) (ad + 1) _ q = va_up (va_up X (ad + 1) _) (ad + 2) _ q
        unfold va_up
        by_cases z1 : q = ad + 1
        · have z2 : ¬ q = ad + 2 := by omega
          simp only [z1, if_true, if_neg (show ¬ ad + 1 = ad + 2 by omega)]
        · simp only [if_neg z1]
      have g5 : hfld (XX (PAi (i + 1)) (Bi i), n1) [2] 1 ad = some (.ref (ad + 2)) := d_hfld (σ := (XX (PAi (i + 1)) (Bi i), n1)) (xx0 _ _) rfl
      have bi1 : Bi i (i + 1) = B (i + 1) := by
        show (if l ≤ i + 1 ∧ i + 1 < i then _ else B (i + 1)) = _
        rw [if_neg (by omega)]
      have g6 : hald (XX (PAi (i + 1)) (Bi i), n1) (ad + 2) (Int32.ofNat (i + 1)) = some (B (i + 1)) := by
        rw [d_ild _ (xx2 _ _) (show i + 1 < 8 by omega) (by omega), bi1]
      have g7 : hast (XX (PAi (i + 1)) (Bi i), n1) (ad + 2) (Int32.ofNat i) (B (i + 1)) = some (XX (PAi (i + 1)) (Bi (i + 1)), n1) := by
        rw [d_ast (σ := (XX (PAi (i + 1)) (Bi i), n1)) (xx2 _ _) (show i < 8 by omega) (by omega)]
        have pe : upd (Bi i) i (B (i + 1)) = Bi (i + 1) := by
          funext j
          unfold upd
          by_cases z : j = i
          · rw [if_pos z, z]
            show _ = if l ≤ i ∧ i < i + 1 then B (i + 1) else B i
            rw [if_pos (by omega)]
          · rw [if_neg z]
            show (if l ≤ j ∧ j < i then B (j + 1) else B j) = if l ≤ j ∧ j < i + 1 then B (j + 1) else B j
            by_cases z2 : l ≤ j ∧ j < i
            · rw [if_pos z2, if_pos (by omega)]
            · rw [if_neg z2, if_neg (by omega)]
        rw [pe]
        unfold hset
        congr 2
        exact d_up_up _ _ _ _
      unfold f2_unseat_L11
      simp only [g1, obd, d_su, d_lef (show i + 1 < n by omega) (by omega), if_false, g2, orf, g3, g4, g5, g6, g7]) (by
      have g1 : hfi (XX (PAi (n - 1)) (Bi (n - 1)), n1) [2] 2 ad = some (Int32.ofNat n) := d_hfi (σ := (XX (PAi (n - 1)) (Bi (n - 1)), n1)) (xx0 _ _) rfl rfl
      unfold f2_unseat_L11
      simp only [g1, obd, d_su, show n - 1 + 1 = n by omega, d_let, if_true])
    rw [e0] at this
    exact this
  let X2 : Nat → Option HO := va_up (XX (PAi (n - 1)) (Bi (n - 1))) ad (some (.inl (2, [.ref (ad + 1), .ref (ad + 2), .int (Int32.ofNat (n - 1)), .int lw])))
  have x2p : ∀ q, q ≠ ad → q ≠ ad + 1 → q ≠ ad + 2 → X2 q = X q := fun q h0 h1 h2 => (va_up_ne _ _ h0).trans (xxp _ _ q h1 h2)
  have rmP : ∀ i, i < 8 → d_rm n l P i = P i ∨ (i + 1 < 8 ∧ d_rm n l P i = P (i + 1)) := fun i hi => by
    unfold d_rm
    split
    · exact Or.inr ⟨by omega, rfl⟩
    · exact Or.inl rfl
  have L2 : d_LX X2 ad (d_rm n l P) (d_rm n l K) (d_rm n l F) (n - 1) lw := by
    refine ⟨⟨va_up_self _ _ _, PAi (n - 1), (va_up_ne _ _ (by omega)).trans (xx1 _ _), fun i hi => ?_⟩, fun i hi => ?_, by omega⟩
    · show (if l ≤ i ∧ i < n - 1 then PA (i + 1) else PA i) = some (d_rm n l P i)
      unfold d_rm
      by_cases z : l ≤ i ∧ i < n - 1
      · rw [if_pos z, if_pos (by omega)]; exact b3 _ (by omega)
      · rw [if_neg z, if_neg (by omega)]; exact b3 _ hi
    · unfold d_rm
      by_cases z : l ≤ i ∧ i + 1 < n
      · rw [if_pos z, if_pos z, if_pos z]
        have q := np (i + 1) (by omega)
        exact ⟨⟨(x2p _ q.1 q.2.1 q.2.2).trans (b4 (i + 1) (by omega)).1.1, (b4 (i + 1) (by omega)).1.2⟩, q.2.2⟩
      · rw [if_neg z, if_neg z, if_neg z]
        have q := np i hi
        exact ⟨⟨(x2p _ q.1 q.2.1 q.2.2).trans (b4 i hi).1.1, (b4 i hi).1.2⟩, q.2.2⟩
  have e2 : d_cB X2 ad (Bi (n - 1)) = X2 := d_cB_e ((va_up_ne _ _ (by omega)).trans (xx2 _ _))
  let Ci : Nat → Nat → Int32 := fun i j => if j < i then d_shl l (Bi (n - 1) j) else Bi (n - 1) j
  have lp2 : iter (f2_unseat_L73 ad (d_ah l)) FU (Int32.ofInt 0, (X2, n1)) = some (d_cB X2 ad (Ci (n - 1)), n1) := by
    have := d_for (step := f2_unseat_L73 ad (d_ah l)) (fun i => (Int32.ofNat i, ((d_cB X2 ad (Ci i), n1) : HM))) (d_cB X2 ad (Ci (n - 1)), n1) (n - 1) 0 (by omega) (by omega) (by
      intro i _ hi
      unfold f2_unseat_L73
      simp only [x_n L2, obd, d_lef hi (by omega), if_false, x_f1 L2, orf, x_ld (show i < 8 by omega), x_st (show i < 8 by omega), d_su]
      congr 6
      funext j
      unfold upd
      show (if j = i then ((Ci i i &&& d_ah l) ||| ((Ci i i >>> (Int32.ofInt 1 &&& 31)) &&& (d_ah l ^^^ Int32.ofInt (-1)))) else Ci i j) = Ci (i + 1) j
      show (if j = i then d_shl l (if i < i then d_shl l (Bi (n - 1) i) else Bi (n - 1) i) else if j < i then d_shl l (Bi (n - 1) j) else Bi (n - 1) j) = if j < i + 1 then d_shl l (Bi (n - 1) j) else Bi (n - 1) j
      by_cases z : j = i
      · rw [if_pos z, if_neg (by omega), if_pos (by omega), z]
      · rw [if_neg z]
        by_cases z2 : j < i
        · rw [if_pos z2, if_pos (by omega)]
        · rw [if_neg z2, if_neg (by omega)]) (by
      unfold f2_unseat_L73
      simp only [x_n L2, obd, d_let, if_true])
    have c0 : Ci 0 = Bi (n - 1) := by funext j; show (if j < 0 then _ else _) = _; rw [if_neg (by omega)]
    rw [c0, e2] at this
    exact this
  refine ⟨d_cB X2 ad (Ci (n - 1)), ?_, ⟨d_LX_cB L2, ?_, fun i hi => ?_⟩, fun q h0 h1 h2 => (d_cB_ne h2).trans (x2p q h0 h1 h2)⟩
  · have hs : f2_has (X, n1) ad (Int32.ofNat l) = some (d_i true) := by
      have := x_has (nx := n1) (B := B) L0 (Int32.ofNat l)
      rw [d_cB_e hB, d_is_i hl (by omega)] at this
      exact this
    have g1 : hfi (XX (PAi (n - 1)) (Bi (n - 1)), n1) [2] 2 ad = some (Int32.ofNat n) := d_hfi (σ := (XX (PAi (n - 1)) (Bi (n - 1)), n1)) (xx0 _ _) rfl rfl
    have g2 : hput (XX (PAi (n - 1)) (Bi (n - 1)), n1) [2] 2 ad (.int (Int32.ofNat (n - 1))) = some (X2, n1) := by
      unfold hput hobj
      simp only [xx0]
      rfl
    unfold f2_unseat
    rw [d_ocl (d_hcls (σ := (X, n1)) b1), hs]
    simp only [obd, d_i0, if_neg (show ¬ true = false by simp), lp1, g1]
    rw [show Int32.ofNat n - Int32.ofInt 1 = Int32.ofNat (n - 1) from (Int32.ofNat_sub n 1 (by omega)).symm, g2]
    simp only
    rw [d_one_e (show l < 32 by omega), show d_one l - Int32.ofInt 1 = d_ah l from rfl, lp2]
  · rw [d_cB_at]
    congr 4
    funext j
    show (if j < n - 1 then d_shl l (if l ≤ j ∧ j < n - 1 then B (j + 1) else B j) else if l ≤ j ∧ j < n - 1 then B (j + 1) else B j) = _
    unfold d_uB d_rm
    by_cases z : j < n - 1
    · by_cases z2 : l ≤ j
      · simp only [if_pos z, if_pos (show j + 1 < n by omega), if_pos (show l ≤ j ∧ j < n - 1 by omega), if_pos (show l ≤ j ∧ j + 1 < n by omega)]
      · simp only [if_pos z, if_pos (show j + 1 < n by omega), if_neg (show ¬ (l ≤ j ∧ j < n - 1) by omega), if_neg (show ¬ (l ≤ j ∧ j + 1 < n) by omega)]
    · simp only [if_neg z, if_neg (show ¬ j + 1 < n by omega), if_neg (show ¬ (l ≤ j ∧ j < n - 1) by omega), if_neg (show ¬ (l ≤ j ∧ j + 1 < n) by omega)]
  · rcases rmP i hi with e | ⟨e1, e⟩
    · rw [e]; exact hP i hi
    · rw [e]; exact hP _ e1
theorem m_leaves {Z : Nat → Option HO} {ma n nx l : Nat} {S : Nat → Int32} {K F : Nat → Nat} {B : Nat → Int32} {lw : Int32} (h : d_MZ Z ma) (hS : d_MS S n K F B lw) (hn : n ≤ 8) (hl : l < n) : ∃ S', f11_leaves (d_mS Z ma S, nx) ma (Int32.ofNat l) = some (d_mS Z ma S', nx) ∧ d_MS S' (n - 1) (d_rm n l K) (d_rm n l F) (d_uB n l B) lw := by
  obtain ⟨r, g1, S1, rfl, g2⟩ := d_it (step := f11_leaves_L8 ma (Int32.ofNat l) (d_ah l)) (fun i w => ∃ S', w = (Int32.ofNat i, (d_mS Z ma S', nx)) ∧ d_MS S' n K F (fun j => if j < i then d_shl l (B j) else B j) lw) (fun r => ∃ S', r = (d_mS Z ma S', nx) ∧ d_MS S' n K F (fun j => if j < n then d_shl l (B j) else B j) lw) n (by
      rintro i w hi ⟨S', rfl, hS'⟩
      unfold f11_leaves_L8
      have hb : S' (4 + 3 * i) = B i := ((hS'.2.2 i hi).2.2).trans (if_neg (by omega))
      simp only [m_f0 h, obd, orf, m_ld0, hS'.1, d_lef hi (by omega), if_false, m_c h, m_beaten h (show i < 8 by omega), m_puts2 h (show i < 8 by omega), d_su, hb]
      refine Or.inl ⟨_, rfl, _, rfl, d_MS_cB (fun j hj => ⟨rfl, rfl, ?_⟩) (d_MS_B hS' (j := i) (d_shl l (B i)))⟩
      unfold upd
      show (if j = i then d_shl l (B i) else if j < i then d_shl l (B j) else B j) = if j < i + 1 then d_shl l (B j) else B j
      by_cases z : j = i
      · rw [if_pos z, if_pos (by omega), z]
      · rw [if_neg z]
        by_cases z2 : j < i
        · rw [if_pos z2, if_pos (by omega)]
        · rw [if_neg z2, if_neg (by omega)]) (by
      rintro w ⟨S', rfl, hS'⟩
      unfold f11_leaves_L8
      simp only [m_f0 h, obd, orf, m_ld0, hS'.1, d_let, if_true]
      exact ⟨_, rfl, S', rfl, hS'⟩) FU 0 (Int32.ofInt 0, (d_mS Z ma S, nx)) (by omega) (by unfold FU; omega) ⟨S, rfl, hS⟩
  let Sk : Nat → Nat → Int32 := fun k j => if 2 + 3 * l ≤ j ∧ j < k then S1 (j + 3) else S1 j
  have s0 : ∀ k, Sk k 0 = Int32.ofNat n := fun k => (if_neg (by omega)).trans g2.1
  have lp2 : iter (f11_leaves_L55 ma) FU (Int32.ofNat (2 + 3 * l), (d_mS Z ma S1, nx)) = some (d_mS Z ma (Sk (2 + 3 * (n - 1))), nx) := by
    have := d_for (step := f11_leaves_L55 ma) (fun k => (Int32.ofNat k, ((d_mS Z ma (Sk k), nx) : HM))) (d_mS Z ma (Sk (2 + 3 * (n - 1))), nx) (2 + 3 * (n - 1)) (2 + 3 * l) (by omega) (by omega) (by
      intro k h1 hk
      unfold f11_leaves_L55
      simp only [m_f0 h, obd, orf, m_ld0, s0]
      rw [show Int32.ofNat n - Int32.ofInt 1 = Int32.ofNat (n - 1) from (Int32.ofNat_sub n 1 (by omega)).symm]
      simp only [d_ix0, d_lef hk (by omega), if_false]
      rw [show Int32.ofNat k + Int32.ofInt 3 = Int32.ofNat (k + 3) from d_ad k 3]
      simp only [m_ld (show k + 3 < 26 by omega), m_st (show k < 26 by omega), d_su]
      congr 6
      funext j
      unfold upd
      show (if j = k then (if 2 + 3 * l ≤ k + 3 ∧ k + 3 < k then S1 (k + 3 + 3) else S1 (k + 3)) else if 2 + 3 * l ≤ j ∧ j < k then S1 (j + 3) else S1 j) = if 2 + 3 * l ≤ j ∧ j < k + 1 then S1 (j + 3) else S1 j
      by_cases z : j = k
      · rw [if_pos z, if_neg (by omega), if_pos (by omega), z]
      · rw [if_neg z]
        by_cases z2 : 2 + 3 * l ≤ j ∧ j < k
        · rw [if_pos z2, if_pos (by omega)]
        · rw [if_neg z2, if_neg (by omega)]) (by
      unfold f11_leaves_L55
      simp only [m_f0 h, obd, orf, m_ld0, s0]
      rw [show Int32.ofNat n - Int32.ofInt 1 = Int32.ofNat (n - 1) from (Int32.ofNat_sub n 1 (by omega)).symm]
      simp only [d_ix0, d_let, if_true])
    have c0 : Sk (2 + 3 * l) = S1 := by funext j; show (if 2 + 3 * l ≤ j ∧ j < 2 + 3 * l then _ else _) = _; rw [if_neg (by omega)]
    rw [c0] at this
    exact this
  refine ⟨upd (Sk (2 + 3 * (n - 1))) 0 (Int32.ofNat (n - 1)), ?_, ?_⟩
  · unfold f11_leaves
    rw [d_one_e (show l < 32 by omega), show d_one l - Int32.ofInt 1 = d_ah l from rfl, g1]
    simp only [obd, d_ix0, lp2, m_f0 h, orf, m_ld0, s0]
    rw [show Int32.ofNat n - Int32.ofInt 1 = Int32.ofNat (n - 1) from (Int32.ofNat_sub n 1 (by omega)).symm]
    simp only [m_st0]
  · refine ⟨if_pos rfl, (if_neg (by omega)).trans ((if_neg (by omega)).trans g2.2.1), fun i hi => ?_⟩
    unfold d_uB d_rm
    rw [if_pos (show i + 1 < n by omega)]
    by_cases z : l ≤ i ∧ i + 1 < n
    · rw [if_pos z, if_pos z, if_pos z]
      have q := g2.2.2 (i + 1) (by omega)
      refine ⟨(if_neg (by omega)).trans ((if_pos (by omega)).trans ?_), (if_neg (by omega)).trans ((if_pos (by omega)).trans ?_), (if_neg (by omega)).trans ((if_pos (by omega)).trans ?_)⟩
      · rw [show 2 + 3 * i + 3 = 2 + 3 * (i + 1) by omega]; exact q.1
      · rw [show 3 + 3 * i + 3 = 3 + 3 * (i + 1) by omega]; exact q.2.1
      · rw [show 4 + 3 * i + 3 = 4 + 3 * (i + 1) by omega]; exact q.2.2.trans (if_pos (by omega))
    · rw [if_neg z, if_neg z, if_neg z]
      have q := g2.2.2 i (by omega)
      exact ⟨(if_neg (by omega)).trans ((if_neg (by omega)).trans q.1), (if_neg (by omega)).trans ((if_neg (by omega)).trans q.2.1), (if_neg (by omega)).trans ((if_neg (by omega)).trans (q.2.2.trans (if_pos (by omega))))⟩
