/-! PURE: odds: weights -/
theorem d_64 {s : Nat} (h : s < 100) : (Int32.ofNat s).toInt64 = d_L s := (show ∀ s, s < 100 → (Int32.ofNat s).toInt64 = Int64.ofNat s by decide +kernel) s h
theorem d_Lm (a b : Nat) : d_L a * d_L b = d_L (a * b) := (Int64.ofNat_mul _ _).symm
theorem d_La (a b : Nat) : d_L a + d_L b = d_L (a + b) := (Int64.ofNat_add _ _).symm
def d_wt (K F : Nat → Nat) (u : Nat → Nat → Bool) (p q : Nat) : Nat := if u p q = true then d_sk K F p else d_sk K F q
def d_W (n : Nat) (K F : Nat → Nat) (u : Nat → Nat → Bool) : Nat := d_prod (n * (n - 1) / 2) (fun k => d_wt K F u (tL k) (tG k))
theorem x_weight {X : Nat → Option HO} {ad n nx : Nat} {P K F : Nat → Nat} {lw : Int32} {B : Nat → Int32} (L : d_LX X ad P K F n lw) {u : Nat → Nat → Bool} (hu : ∀ p q, p < q → q < n → d_b (B p) q = u p q) : f2_weight (d_cB X ad B, nx) ad = some (d_L (d_W n K F u)) := by
  have hn := L.2.2
  have h28 := d_28 hn
  have skl : ∀ i, i < 8 → d_skill (K i) (F i) < 100 := fun i hi => by have := (d_skl (L.2.1 i hi).1.2.1 (L.2.1 i hi).1.2.2).2; omega
  unfold f2_weight
  rw [show iter (f2_weight_L4 (d_cB X ad B, nx) ad) FU (Int64.ofNat 1, Int32.ofInt 0) = some (d_L (d_W n K F u)) from
    d_for (fun k => (d_L (d_prod k (fun k => d_wt K F u (tL k) (tG k))), Int32.ofNat k)) _ (n * (n - 1) / 2) 0 (by omega) (by omega) ?_ ?_]
  · rfl
  · intro k _ hk
    obtain ⟨n1, n2⟩ := t_n hn hk
    obtain ⟨h1, h2, h3, h4⟩ := t_e n2
    have hub := hu (tL k) (tG k) h3 n1
    unfold f2_weight_L4
    simp only [x_c L, x_matches L, obd, d_lef hk (by omega), if_false, d_inb n2 (show 28 ≤ 1000 by omega), ogd, x_f0 L, orf, d_nn (show k < 2147483648 by omega), h1, h2, x_hasBeaten L (show tL k < 8 by omega) (show tG k < 32 by omega), hub, d_i0]
    unfold f2_weight_K49
    simp only [orf, x_p L (show tL k < 8 by omega), x_p L h4, obd, d_vskill (x_pe L (show tL k < 8 by omega)), d_vskill (x_pe L h4), d_64 (skl (tL k) (by omega)), d_64 (skl (tG k) h4), d_Lm, d_su]
    show _ = some (Sum.inl (d_L (d_prod k (fun k => d_wt K F u (tL k) (tG k)) * d_wt K F u (tL k) (tG k)), _))
    unfold d_wt
    cases u (tL k) (tG k) <;> rfl
  · unfold f2_weight_L4
    simp only [x_c L, x_matches L, obd, d_let, if_true]
    rfl
section MWEIGHT
variable {Z : Nat → Option HO} {ma n nx : Nat} {S : Nat → Int32} {K F : Nat → Nat} {B : Nat → Int32} {lw : Int32}
theorem m_weight (h : d_MZ Z ma) (hS : d_MS S n K F B lw) (hn : n ≤ 8) (hk : d_KF n K F) {u : Nat → Nat → Bool} (hu : ∀ p q, p < q → q < n → d_b (B p) q = u p q) : f11_weightNow (d_mS Z ma S, nx) ma = some (d_L (d_prod n (fun i => d_prr (i + 1) n (fun j => d_wt K F u i j)))) := by
  have skl : ∀ i, i < n → d_sk K F i < 100 := fun i hi => by have := (d_skl (hk i hi).1 (hk i hi).2).2; unfold d_sk; omega
  unfold f11_weightNow
  rw [show iter (f11_weightNow_L4 (d_mS Z ma S, nx) ma) FU (Int64.ofNat 1, Int32.ofInt 0) = some (d_L (d_prod n (fun i => d_prr (i + 1) n (fun j => d_wt K F u i j)))) from
    d_for (fun i => (d_L (d_prod i (fun i => d_prr (i + 1) n (fun j => d_wt K F u i j))), Int32.ofNat i)) _ n 0 (by omega) (by omega) ?_ ?_]
  · rfl
  · intro i _ hi
    have inner := d_for (step := f11_weightNow_L19 (d_mS Z ma S, nx) ma (Int32.ofNat i)) (fun j => (d_L (d_prod i (fun i => d_prr (i + 1) n (fun j => d_wt K F u i j)) * d_prr (i + 1) j (fun j => d_wt K F u i j)), Int32.ofNat j)) (d_L (d_prod (i + 1) (fun i => d_prr (i + 1) n (fun j => d_wt K F u i j)))) n (i + 1) (by omega) (by omega) (by
      intro j h1 hj
      have hub := hu i j (by omega) hj
      unfold f11_weightNow_L19
      simp only [m_f0 h, obd, orf, m_ld0, hS.1, d_lef hj (by omega), if_false, m_c h, m_beaten h (show i < 8 by omega), (hS.2.2 i hi).2.2, d_bit _ (show j < 32 by omega), hub, d_i1, m_skill h hS hn hk hi, m_skill h hS hn hk hj, d_64 (skl i hi), d_64 (skl j hj), d_Lm, d_su]
      rw [d_prrs h1, ← Nat.mul_assoc]
      show _ = some (Sum.inl (d_L (_ * (if u i j = true then d_sk K F i else d_sk K F j)), _))
      cases u i j <;> rfl) (by
      unfold f11_weightNow_L19
      simp only [m_f0 h, obd, orf, m_ld0, hS.1, d_let, if_true]
      rfl)
    rw [d_prr0, Nat.mul_one] at inner
    unfold f11_weightNow_L4
    simp only [m_f0 h, obd, orf, m_ld0, hS.1, d_lef hi (by omega), if_false, d_su, inner]
  · unfold f11_weightNow_L4
    simp only [m_f0 h, obd, orf, m_ld0, hS.1, d_let, if_true]
theorem m_all (h : d_MZ Z ma) (hS : d_MS S n K F B lw) (hn : n ≤ 8) (hk : d_KF n K F) (p1 : Int32) : iter (f11_odds_L33 (d_mS Z ma S, nx) ma p1) FU (Int64.ofNat 1, Int32.ofInt 0) = some (d_L (d_prod n (fun i => d_prr (i + 1) n (fun j => d_sk K F i + d_sk K F j)))) := by
  have skl : ∀ i, i < n → d_sk K F i ≤ 20 := fun i hi => (d_skl (hk i hi).1 (hk i hi).2).2
  refine d_for (fun i => (d_L (d_prod i (fun i => d_prr (i + 1) n (fun j => d_sk K F i + d_sk K F j))), Int32.ofNat i)) _ n 0 (by omega) (by omega) ?_ ?_
  · intro i _ hi
    have inner := d_for (step := f11_odds_L50 (d_mS Z ma S, nx) ma p1 (Int32.ofNat i)) (fun j => (d_L (d_prod i (fun i => d_prr (i + 1) n (fun j => d_sk K F i + d_sk K F j)) * d_prr (i + 1) j (fun j => d_sk K F i + d_sk K F j)), Int32.ofNat j)) (d_L (d_prod (i + 1) (fun i => d_prr (i + 1) n (fun j => d_sk K F i + d_sk K F j)))) n (i + 1) (by omega) (by omega) (by
      intro j h1 hj
      have s1 := skl i hi
      have s2 := skl j hj
      unfold f11_odds_L50
      simp only [m_f0 h, obd, orf, m_ld0, hS.1, d_lef hj (by omega), if_false, m_c h, m_skill h hS hn hk hi, m_skill h hS hn hk hj, d_ad, d_64 (show d_sk K F i + d_sk K F j < 100 by omega), d_Lm, d_su]
      rw [d_prrs h1, ← Nat.mul_assoc]) (by
      unfold f11_odds_L50
      simp only [m_f0 h, obd, orf, m_ld0, hS.1, d_let, if_true]
      rfl)
    rw [d_prr0, Nat.mul_one] at inner
    unfold f11_odds_L33
    simp only [m_f0 h, obd, orf, m_ld0, hS.1, d_lef hi (by omega), if_false, d_su, inner]
  · unfold f11_odds_L33
    simp only [m_f0 h, obd, orf, m_ld0, hS.1, d_let, if_true]
end MWEIGHT
/-! the sums -/
def d_Al (n : Nat) (K F : Nat → Nat) : Nat := d_prod (n * (n - 1) / 2) (fun k => d_sk K F (tL k) + d_sk K F (tG k))
def d_gA (n : Nat) (K F : Nat → Nat) (lw : Int32) (u : Nat → Nat → Bool) : Nat := if d_lw n K F (d_ub n u) lw = true then d_W n K F u else 0
theorem d_W_c {n : Nat} (K F : Nat → Nat) (hn : n ≤ 8) {u u' : Nat → Nat → Bool} (h : ∀ p q, p < q → q < n → u p q = u' p q) : d_W n K F u = d_W n K F u' := by
  unfold d_W
  refine d_prod_c (fun k hk => ?_)
  obtain ⟨n1, n2⟩ := t_n hn hk
  unfold d_wt
  rw [h _ _ (t_e n2).2.2.1 n1]
theorem d_below {n : Nat} (K F : Nat → Nat) (hn : n ≤ 5) : d_sum (2 ^ (n * (n - 1) / 2)) (fun w => d_W n K F (d_ux w)) = d_Al n K F := by
  unfold d_Al
  rw [← d_expand]
  refine d_sum_c (fun w _ => ?_)
  unfold d_W
  refine d_prod_c (fun k hk => ?_)
  obtain ⟨n1, n2⟩ := t_n (show n ≤ 8 by omega) hk
  have h3 := (t_e n2)
  unfold d_wt d_ux
  rw [show d_ix (tL k) (tG k) = k from by rw [t_ix n2 h3.2.2.1 h3.2.2.2]; exact ⟨rfl, rfl⟩, d_bn w (show k < 32 by omega)]
theorem d_above {n : Nat} (K F : Nat → Nat) (lw : Int32) (hn : n ≤ 5) : d_sum (2 ^ (n * (n - 1) / 2)) (fun w => d_gA n K F lw (d_ux w)) = d_sum (2 ^ (n * (n - 1) / 2)) (fun w => d_gA n K F lw (d_um n w)) :=
  d_perm hn (d_gA n K F lw) (fun u u' h => by unfold d_gA; rw [d_ub_lc _ _ _ h, d_W_c K F (by omega) h])
theorem d_Al_b {n : Nat} {K F : Nat → Nat} (hn : n ≤ 4) (hk : d_KF n K F) : 1 ≤ d_Al n K F ∧ d_Al n K F < 8589934592 := by
  have h := d_prod_le (f := fun k => d_sk K F (tL k) + d_sk K F (tG k)) (c := 40) (m := n * (n - 1) / 2) (fun k hk2 => by
    obtain ⟨n1, n2⟩ := t_n (show n ≤ 8 by omega) hk2
    have h3 := (t_e n2)
    have s1 := d_skl (hk (tL k) (by omega)).1 (hk (tL k) (by omega)).2
    have s2 := d_skl (hk (tG k) n1).1 (hk (tG k) n1).2
    show 1 ≤ d_skill _ _ + d_skill _ _ ∧ d_skill _ _ + d_skill _ _ ≤ 40
    omega)
  refine ⟨h.1, Nat.lt_of_le_of_lt h.2 ?_⟩
  exact (show ∀ n, n < 5 → 40 ^ (n * (n - 1) / 2) < 8589934592 by decide) n (by omega)
theorem d_above_b {n : Nat} {K F : Nat → Nat} (lw : Int32) (hn : n ≤ 4) : d_sum (2 ^ (n * (n - 1) / 2)) (fun w => d_gA n K F lw (d_um n w)) ≤ d_Al n K F := by
  rw [← d_above K F lw (by omega), ← d_below K F (by omega)]
  refine d_sum_le (fun w _ => ?_)
  unfold d_gA
  split
  · exact Nat.le_refl _
  · exact Nat.zero_le _
