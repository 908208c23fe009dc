/-! PURE: all ways to have played, in two orders -/
theorem d_bn (w : Nat) {k : Nat} (h : k < 32) : d_b (Int32.ofNat w) k = w.testBit k := by
  show (BitVec.ofNat 32 w).getLsbD k = _
  rw [BitVec.getLsbD_ofNat]
  simp [h]
theorem d_sum_l (g : Nat → Nat) : ∀ m, d_sum m g = ((List.range m).map g).sum
  | 0 => rfl
  | m + 1 => by
    show d_sum m g + g m = _
    rw [List.range_succ, List.map_append, List.sum_append, ← d_sum_l g m]
    simp
def d_pm (n w : Nat) : Nat := d_sum n (fun q => d_sum q (fun p => if w.testBit (d_ix p q) then 2 ^ (d_im n p q) else 0))
set_option maxRecDepth 100000 in
theorem d_pm_p : (List.range 6).all (fun n => ((List.range (2 ^ (n * (n - 1) / 2))).map (d_pm n)).isPerm (List.range (2 ^ (n * (n - 1) / 2)))) = true := by decide +kernel
set_option maxRecDepth 100000 in
theorem d_pm_b : (List.range 6).all (fun n => (List.range (2 ^ (n * (n - 1) / 2))).all (fun w => (List.range n).all (fun q => (List.range q).all (fun p => (d_pm n w).testBit (d_im n p q) == w.testBit (d_ix p q))))) = true := by decide +kernel
theorem d_pm_perm {n : Nat} (hn : n ≤ 5) : ((List.range (2 ^ (n * (n - 1) / 2))).map (d_pm n)).Perm (List.range (2 ^ (n * (n - 1) / 2))) :=
  List.isPerm_iff.mp (List.all_eq_true.mp d_pm_p n (List.mem_range.mpr (by omega)))
theorem d_pm_bit {n w p q : Nat} (hn : n ≤ 5) (hw : w < 2 ^ (n * (n - 1) / 2)) (hpq : p < q) (hq : q < n) : (d_pm n w).testBit (d_im n p q) = w.testBit (d_ix p q) := by
  have h1 := List.all_eq_true.mp d_pm_b n (List.mem_range.mpr (by omega))
  have h2 := List.all_eq_true.mp h1 w (List.mem_range.mpr hw)
  have h3 := List.all_eq_true.mp h2 q (List.mem_range.mpr hq)
  exact eq_of_beq (List.all_eq_true.mp h3 p (List.mem_range.mpr hpq))
def d_ux (w : Nat) : Nat → Nat → Bool := fun p q => d_b (Int32.ofNat w) (d_ix p q)
def d_um (n w : Nat) : Nat → Nat → Bool := fun p q => d_b (Int32.ofNat w) (d_im n p q)
theorem d_perm {n : Nat} (hn : n ≤ 5) (g : (Nat → Nat → Bool) → Nat) (hg : ∀ u u' : Nat → Nat → Bool, (∀ p q, p < q → q < n → u p q = u' p q) → g u = g u') : d_sum (2 ^ (n * (n - 1) / 2)) (fun w => g (d_ux w)) = d_sum (2 ^ (n * (n - 1) / 2)) (fun w => g (d_um n w)) := by
  rw [d_sum_l (fun w => g (d_um n w)), ← ((d_pm_perm hn).map (fun w => g (d_um n w))).sum_nat, List.map_map, ← d_sum_l]
  refine d_sum_c (fun w hw => ?_)
  refine hg _ _ (fun p q hpq hq => ?_)
  have h28 := d_28 (show n ≤ 8 by omega)
  have i1 := t_ixm (show n ≤ 8 by omega) hpq hq
  have i2 := d_imm (show n ≤ 8 by omega) hpq hq
  show d_b (Int32.ofNat w) (d_ix p q) = d_b (Int32.ofNat (d_pm n w)) (d_im n p q)
  rw [d_bn w (by omega), d_bn _ (by omega), d_pm_bit hn hw hpq hq]
theorem d_ub_c {n : Nat} {u u' : Nat → Nat → Bool} (h : ∀ p q, p < q → q < n → u p q = u' p q) : ∀ i, i < n → d_ub n u i = d_ub n u' i := fun i hi => by
  unfold d_ub
  refine d_mkc (fun j hj => ?_)
  by_cases c : i < j
  · rw [if_pos c, if_pos c, h i j c hj]
  · rw [if_neg c, if_neg c]
    by_cases c2 : j < i
    · rw [if_pos c2, if_pos c2, h j i c2 hi]
    · rw [if_neg c2, if_neg c2]
theorem d_ub_lc {n : Nat} (K F : Nat → Nat) (lw : Int32) {u u' : Nat → Nat → Bool} (h : ∀ p q, p < q → q < n → u p q = u' p q) : d_lw n K F (d_ub n u) lw = d_lw n K F (d_ub n u') lw :=
  d_lw_c lw (fun i hi => ⟨rfl, rfl, d_ub_c h i hi⟩)
/-! what is told -/
def d_tok (n : Nat) (t B : Nat → Int32) : Bool := decide (∀ i, i < n → t i &&& (B i ^^^ Int32.ofInt (-1)) = 0)
theorem d_tok_c {n : Nat} (t : Nat → Int32) {B B' : Nat → Int32} (h : ∀ i, i < n → B i = B' i) : d_tok n t B = d_tok n t B' := by
  unfold d_tok
  congr 1
  apply propext
  exact ⟨fun q i hi => by rw [← h i hi]; exact q i hi, fun q i hi => by rw [h i hi]; exact q i hi⟩
theorem d_2m {n : Nat} (hn : n ≤ 5) : n * (n - 1) / 2 ≤ 10 ∧ 2 ^ (n * (n - 1) / 2) ≤ 1024 := (show ∀ n, n < 6 → n * (n - 1) / 2 ≤ 10 ∧ 2 ^ (n * (n - 1) / 2) ≤ 1024 by decide) n (by omega)
def d_gt (n : Nat) (K F : Nat → Nat) (lw : Int32) (t : Nat → Int32) (u : Nat → Nat → Bool) : Nat := (d_tok n t (d_ub n u) && d_lw n K F (d_ub n u) lw).toNat
theorem x_told {X : Nat → Option HO} {ad n nx q : Nat} {P K F : Nat → Nat} {lw : Int32} {B t : Nat → Int32} (L : d_LX X ad P K F n lw) (h : d_cB X ad B q = d_A 8 t) : f2_isAsTold (d_cB X ad B, nx) ad q = some (d_i (d_tok n t B)) := by
  have hn := L.2.2
  unfold f2_isAsTold
  obtain ⟨r, h1, h2⟩ := d_it (step := f2_isAsTold_L2 (d_cB X ad B, nx) ad q) (fun k w => w = Int32.ofNat k ∧ ∀ i, i < k → t i &&& (B i ^^^ Int32.ofInt (-1)) = 0) (fun r => (r = .inr () ∧ ∀ i, i < n → t i &&& (B i ^^^ Int32.ofInt (-1)) = 0) ∨ (r = .inl (Int32.ofInt 0) ∧ ¬ ∀ i, i < n → t i &&& (B i ^^^ Int32.ofInt (-1)) = 0)) n (by
      rintro k w hk ⟨rfl, g⟩
      unfold f2_isAsTold_L2
      simp only [x_n L, obd, d_lef hk (by omega), if_false, d_ild _ h (show k < 8 by omega) (show 8 ≤ 1000 by omega), x_f1 L, orf, x_ld (show k < 8 by omega), d_su]
      by_cases c : t k &&& (B k ^^^ Int32.ofInt (-1)) = 0
      · rw [if_pos c]
        exact Or.inl ⟨_, rfl, rfl, fun i hi => by
          by_cases z : i = k
          · rw [z]; exact c
          · exact g i (by omega)⟩
      · rw [if_neg c]
        exact Or.inr ⟨_, rfl, Or.inr ⟨rfl, fun z => c (z k hk)⟩⟩) (by
      rintro w ⟨rfl, g⟩
      unfold f2_isAsTold_L2
      simp only [x_n L, obd, d_let, if_true]
      exact ⟨_, rfl, Or.inl ⟨rfl, g⟩⟩) FU 0 (Int32.ofInt 0) (by omega) (by unfold FU; omega) ⟨rfl, fun i hi => by omega⟩
  rw [h1]
  unfold d_tok
  rcases h2 with ⟨rfl, g⟩ | ⟨rfl, g⟩
  · rw [decide_eq_true g]; rfl
  · rw [decide_eq_false g]; rfl
theorem x_ways {a nx : Nat} {X : Nat → Option HO} {hi : Int32} {P K F : Nat → Nat} {n : Nat} {lw : Int32} {B t : Nat → Int32} (hX : d_CX X a hi) (G : d_LG a nx X (a + 5) P K F n lw B) (hn : n ≤ 5) (ht : X (a + 13) = d_A 8 t) :
    ∃ X', f10_lawfulWaysAsTold (X, nx) a = some (Int32.ofNat (d_sum (2 ^ (n * (n - 1) / 2)) (fun w => d_gt n K F lw t (d_ux w))), (X', nx)) ∧ (∃ P K F n lw B, d_LG a nx X' (a + 5) P K F n lw B) ∧ ∀ q, ¬ (a + 5 ≤ q ∧ q ≤ a + 7) → X' q = X q := by
  obtain ⟨m10, m1024⟩ := d_2m hn
  have L := G.1
  have hXq : ∀ B, d_CX (d_cB X (a + 5) B) a hi := fun B => (d_cB_ne (by omega)).trans hX
  have ct : ∀ B, hfld (d_cB X (a + 5) B, nx) [10] 7 a = some (.ref (a + 13)) := fun B => c_f (hXq B)
  have htq : ∀ B, d_cB X (a + 5) B (a + 13) = d_A 8 t := fun B => (d_cB_ne (by omega)).trans ht
  obtain ⟨r, h1, B', rfl⟩ := d_it (step := f10_lawfulWaysAsTold_L4 a) (fun w st => ∃ B', st = (Int32.ofNat (d_sum w (fun w => d_gt n K F lw t (d_ux w))), Int32.ofNat w, ((d_cB X (a + 5) B', nx) : HM))) (fun r => ∃ B', r = (Int32.ofNat (d_sum (2 ^ (n * (n - 1) / 2)) (fun w => d_gt n K F lw t (d_ux w))), ((d_cB X (a + 5) B', nx) : HM))) (2 ^ (n * (n - 1) / 2)) (by
      rintro w st hw ⟨B', rfl⟩
      obtain ⟨B2, p1, p2, p3⟩ := x_play (nx := nx) L B' (Int32.ofNat w)
      have p4 := d_ub_e (u := d_ux w) (show n ≤ 8 by omega) p2 p3
      have xl := x_lawful (nx := nx) L p2
      rw [d_ub_lw (u := d_ux w) K F lw (show n ≤ 8 by omega) p2 p3] at xl
      have xt := x_told (nx := nx) L (htq B2)
      rw [d_tok_c t p4] at xt
      unfold f10_lawfulWaysAsTold_L4
      simp only [c_draft (hXq _), obd, orf, x_c L, x_matches L, d_one_e (show n * (n - 1) / 2 < 32 by omega), d_one_n (show n * (n - 1) / 2 < 31 by omega), d_lef hw (by omega), if_false, p1, ct, xt, xl, d_i0, d_su]
      refine Or.inl ⟨(Int32.ofNat (d_sum w (fun w => d_gt n K F lw t (d_ux w)) + d_gt n K F lw t (d_ux w)), Int32.ofNat (w + 1), ((d_cB X (a + 5) B2, nx) : HM)), ?_, B2, rfl⟩
      unfold d_gt
      cases d_tok n t (d_ub n (d_ux w)) <;> cases d_lw n K F (d_ub n (d_ux w)) lw <;> rfl) (by
      rintro st ⟨B', rfl⟩
      unfold f10_lawfulWaysAsTold_L4
      simp only [c_draft (hXq _), obd, orf, x_c L, x_matches L, d_one_e (show n * (n - 1) / 2 < 32 by omega), d_one_n (show n * (n - 1) / 2 < 31 by omega), d_let, if_true]
      exact ⟨_, rfl, B', rfl⟩) FU 0 (Int32.ofInt 0, Int32.ofInt 0, ((X, nx) : HM)) (Nat.zero_le _) (by unfold FU; omega) ⟨B, by rw [d_cB_e G.2.1]; rfl⟩
  refine ⟨d_cB X (a + 5) B', ?_, ⟨_, _, _, _, _, _, d_LG_cB L G.2.2⟩, fun q hq => d_cB_ne (by omega)⟩
  unfold f10_lawfulWaysAsTold
  rw [h1]
  rfl
theorem x_clear {a nx : Nat} {X : Nat → Option HO} {hi : Int32} {t : Nat → Int32} (hX : d_CX X a hi) (ht : X (a + 13) = d_A 8 t) : f10_clearTold (X, nx) a = some (va_up X (a + 13) (d_A 8 (fun j => if j < 8 then Int32.ofInt 0 else t j)), nx) := by
  let Xi : Nat → Nat → Option HO := fun i => va_up X (a + 13) (d_A 8 (fun j => if j < i then Int32.ofInt 0 else t j))
  have hXi : ∀ i, d_CX (Xi i) a hi := fun i => (va_up_ne _ _ (by omega)).trans hX
  have ti : ∀ i, Xi i (a + 13) = d_A 8 (fun j => if j < i then Int32.ofInt 0 else t j) := fun i => va_up_self _ _ _
  have ct : ∀ i, hfld (Xi i, nx) [10] 7 a = some (.ref (a + 13)) := fun i => c_f (hXi i)
  have ln : ∀ i, hlen (Xi i, nx) (a + 13) = some (Int32.ofNat 8) := fun i => by
    unfold hlen
    simp only [ti]
  have e0 : Xi 0 = X := by
    funext q
    show va_up X (a + 13) _ q = X q
    by_cases z : q = a + 13
    · rw [z, va_up_self, ht]; congr 4
    · rw [va_up_ne _ _ z]
  have := d_for (step := f10_clearTold_L2 a) (fun i => (Int32.ofNat i, ((Xi i, nx) : HM))) (Xi 8, nx) 8 0 (by omega) (by omega) (by
    intro i _ hi
    have st : hast (Xi i, nx) (a + 13) (Int32.ofNat i) (Int32.ofInt 0) = some (Xi (i + 1), nx) := by
      rw [d_ast (σ := (Xi i, nx)) (ti i) hi (by omega)]
      unfold hset
      show some (va_up (va_up X (a + 13) _) (a + 13) _, nx) = _
      rw [d_up_up]
      congr 8
      funext j
      unfold upd
      show (if j = i then Int32.ofInt 0 else if j < i then Int32.ofInt 0 else t j) = if j < i + 1 then Int32.ofInt 0 else t j
      by_cases z : j = i
      · rw [if_pos z, if_pos (by omega)]
      · rw [if_neg z]
        by_cases z2 : j < i
        · rw [if_pos z2, if_pos (by omega)]
        · rw [if_neg z2, if_neg (by omega)]
    unfold f10_clearTold_L2
    simp only [ct, obd, orf, ln, d_lef hi (by omega), if_false, st, d_su]) (by
    unfold f10_clearTold_L2
    simp only [ct, obd, orf, ln, d_let, if_true])
  rw [e0] at this
  unfold f10_clearTold
  rw [show iter (f10_clearTold_L2 a) FU (Int32.ofInt 0, ((X, nx) : HM)) = _ from this]
  rfl
