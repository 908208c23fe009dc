/-! PURE: holding, free -/
theorem d_S_keep {M : Nat → Option HO} {ma : Nat} {S S' : Nat → Int32} {n : Nat} {K F : Nat → Nat} {B : Nat → Int32} {lw : Int32} (hn : n ≤ 8) (h0 : M (ma + 1) = d_A 26 S) (h1 : d_MS S n K F B lw) (h2 : d_MS S' n K F B lw) : ∀ S2 n2 K2 F2 B2 lw2, M (ma + 1) = d_A 26 S2 → n2 ≤ 8 → d_MS S2 n2 K2 F2 B2 lw2 → d_MS S' n2 K2 F2 B2 lw2 := by
  intro S2 n2 K2 F2 B2 lw2 g1 g2 g3
  have e : S2 = S := by
    have q : some _ = some _ := g1.symm.trans h0
    simp only [Option.some.injEq, Sum.inr.injEq, Sum.inl.injEq, Prod.mk.injEq] at q
    exact q.2
  subst e
  have en : n2 = n := by
    have q := g3.1.symm.trans h1.1
    rw [d_eq (by omega) (by omega)] at q
    exact q
  subst en
  exact ⟨h2.1.trans (h1.1.symm.trans g3.1), h2.2.1.trans (h1.2.1.symm.trans g3.2.1), fun i hi => ⟨(h2.2.2 i hi).1.trans ((h1.2.2 i hi).1.symm.trans (g3.2.2 i hi).1), (h2.2.2 i hi).2.1.trans ((h1.2.2 i hi).2.1.symm.trans (g3.2.2 i hi).2.1), (h2.2.2 i hi).2.2.trans ((h1.2.2 i hi).2.2.symm.trans (g3.2.2 i hi).2.2)⟩⟩
theorem sD_free (a ma : Nat) : S_free (d_R a ma) a ma := by
  intro X M nx hR
  have hR0 := hR
  obtain ⟨hi, hX, ha, ⟨th, po, ba, en, lt, lp, sd, hM⟩, ⟨P, K, F, n, lw, B, S, G, hG, hS0, hS⟩, -, ⟨⟨P', K', F', n', lw', B', G'⟩, -⟩, -⟩ := hR0
  have Z := d_MO_Z hM
  have eM := d_mS_e hS0
  have hn : n ≤ 8 := G.1.2.2
  obtain ⟨X1, B1, x1, x2, x3⟩ := x_turns hX G G' hG.1
  obtain ⟨S', y1, y2⟩ := m_turnedTo (nx := nx) Z hS hn (d_LX_KF G.1) hG.1 hG.2.2 true
  rw [eM] at y1
  refine ⟨Int32.ofNat (d_sum (n * (n - 1) / 2) (fun k => (d_lw n K F (d_fl B (tL k) (tG k)) lw).toNat)), X1, nx, d_mS M ma S', nx, ?_, ?_, d_R_dr hR x3 ⟨_, _, _, _, _, _, x2⟩ (d_S_keep hn hS0 hS y2)⟩
  · unfold f10_free
    simp only [c_c hX, x1, obd]
  · unfold f11_free
    rw [n_c hM, show Int32.ofInt 1 = d_i true from rfl, y1]
    simp only [obd]
    rw [d_pairs (fun i j => (d_lw n K F (d_fl B i j) lw).toNat) hG.2.1]
    congr 5
    funext i
    congr 1
    funext j
    cases d_lw n K F (d_fl B i j) lw <;> rfl
theorem sD_holding (a ma : Nat) : S_holding (d_R a ma) a ma := by
  intro X M nx hR
  have hR0 := hR
  obtain ⟨hi, hX, ha, ⟨th, po, ba, en, lt, lp, sd, hM⟩, ⟨P, K, F, n, lw, B, S, G, hG, hS0, hS⟩, -, ⟨⟨P', K', F', n', lw', B', G'⟩, -⟩, -⟩ := hR0
  have Z := d_MO_Z hM
  have eM := d_mS_e hS0
  have eX := d_cB_e G.2.1
  have hn : n ≤ 8 := G.1.2.2
  have xl := x_lawful (nx := nx) G.1 hG.1
  have xm := x_matches (nx := nx) (B := B) G.1
  rw [eX] at xl xm
  have ml := m_lawful (nx := nx) Z hS hn (d_LX_KF G.1) hG.1 hG.2.2
  rw [eM] at ml
  have oc : ∀ {α : Type} (x : Option α), ocl (X, nx) (a + 2) 2 x = x := fun x => d_ocl (d_hcls (σ := (X, nx)) G.1.1.1) x
  cases e : d_lw n K F B lw with
  | false =>
    refine ⟨Int32.ofInt 0, X, nx, M, nx, ?_, ?_, hR⟩
    · unfold f10_holding
      simp only [c_now hX, obd, orf, oc, xl, e, d_i0, if_true]
    · unfold f11_holding
      simp only [n_c hM, ml, e, obd, d_i0, if_true]
  | true =>
    obtain ⟨X1, B1, x1, x2, x3⟩ := x_turns hX G G' hG.1
    obtain ⟨S', y1, y2⟩ := m_turnedTo (nx := nx) Z hS hn (d_LX_KF G.1) hG.1 hG.2.2 false
    rw [eM] at y1
    refine ⟨Int32.ofNat (n * (n - 1) / 2) - Int32.ofNat (d_sum (n * (n - 1) / 2) (fun k => (d_lw n K F (d_fl B (tL k) (tG k)) lw).toNat)), X1, nx, d_mS M ma S', nx, ?_, ?_, d_R_dr hR x3 ⟨_, _, _, _, _, _, x2⟩ (d_S_keep hn hS0 hS y2)⟩
    · unfold f10_holding
      simp only [c_now hX, obd, orf, oc, xl, e, d_i0, if_neg (show ¬ true = false by simp), xm, c_c hX, x1]
    · unfold f11_holding
      rw [n_c hM, ml, e]
      simp only [obd, d_i0, if_neg (show ¬ true = false by simp), n_c hM]
      rw [show Int32.ofInt 0 = d_i false from rfl, y1]
      simp only [obd]
      have s1 := d_sum_add (fun k => (d_lw n K F (d_fl B (tL k) (tG k)) lw).toNat) (fun k => (d_lw n K F (d_fl B (tL k) (tG k)) lw == false).toNat) (n * (n - 1) / 2)
      rw [show (fun k => (d_lw n K F (d_fl B (tL k) (tG k)) lw).toNat + (d_lw n K F (d_fl B (tL k) (tG k)) lw == false).toNat) = (fun _ => 1) from by
        funext k
        cases d_lw n K F (d_fl B (tL k) (tG k)) lw <;> rfl, d_sum_1] at s1
      rw [← d_pairs (fun i j => (d_lw n K F (d_fl B i j) lw == false).toNat) hG.2.1]
      rw [← Int32.ofNat_sub _ _ (by omega)]
      congr 3
      omega
