/-! PURE: played -/
theorem d_R_t {a ma nx : Nat} {X M : Nat → Option HO} (h : d_R a ma X M nx) (t : Nat → Int32) : d_R a ma (va_up X (a + 13) (d_A 8 t)) M nx := by
  have h0 := h
  obtain ⟨hi, b1, b2, b3, b4, b5, ⟨⟨P, K, F, n, lw, B, c0⟩, -, -, c2, c3, c4⟩, b7⟩ := h0
  exact d_R_mind h (Nat.le_refl _) (fun q _ _ h2 => va_up_ne _ _ h2) (fun k _ => rfl) (fun hi th po ba en lt lp sd q => ⟨th, po, ba, en, lt, lp, sd, q⟩) (fun S n K F B lw g1 _ g3 => ⟨S, g1, g3⟩) ⟨P, K, F, n, lw, B, d_LG_fr c0 (Nat.le_refl _) (fun q hq => va_up_ne _ _ (by have := (d_ok_lt b2 hq).2.1; omega)) (va_up_ne _ _ (by omega)) (va_up_ne _ _ (by omega)) (va_up_ne _ _ (by omega))⟩ ⟨t, va_up_self _ _ _⟩ ⟨c2, c3, c4⟩
theorem d_mod2 {m : Nat} (h : m ≤ 100) : (Int32.ofNat m - Int32.ofNat m / Int32.ofInt 2 * Int32.ofInt 2 = 0) = (m % 2 = 0) :=
  (show ∀ m, m < 101 → (decide (Int32.ofNat m - Int32.ofNat m / Int32.ofInt 2 * Int32.ofInt 2 = 0) = decide (m % 2 = 0)) by decide +kernel) m (by omega) |> fun e => propext (decide_eq_decide.mp e)
theorem d_su2 (k : Nat) : Int32.ofNat (2 * k) + Int32.ofInt 2 = Int32.ofNat (2 * (k + 1)) := by
  rw [show Int32.ofInt 2 = Int32.ofNat 2 from rfl, d_ad]; congr 1
theorem k51_bad (s : HM) (a : Nat) (p no : Int32) (h : ¬ no = 0) : f11_played_K51 s a p no = some (no, s) := by
  unfold f11_played_K51
  have e : iter (f11_played_L53 s a p) FU (no, Int32.ofInt 0) = some no := by
    show iter _ (999999 + 1) _ = _
    unfold iter
    unfold f11_played_L53
    simp only [if_neg h]
  rw [e]
  simp only [obd, if_neg h]
theorem k32_bad (s : HM) (a : Nat) (p no : Int32) (h : ¬ no = 0) : f11_played_K32 s a p no = some (no, s) := by
  unfold f11_played_K32
  rw [if_neg h, k51_bad s a p no h]
/-- what is told by the pairs ahead of k -/
def d_TI (g : Nat → Int32) (k : Nat) (t : Nat → Int32) : Prop := ∀ i j, i < 8 → j < 32 → (d_b (t i) j = true ↔ ∃ q, q < k ∧ g (2 * q) = Int32.ofNat i ∧ g (2 * q + 1) = Int32.ofNat j)
theorem d_TI_tok {n h : Nat} {g t : Nat → Int32} (B : Nat → Int32) (hn : n ≤ 8) (ht : d_TI g h t) (h2 : ∀ q, q < h → d_two n (g (2 * q)) (g (2 * q + 1)) = true) : (d_tok n t B = true) ↔ ∀ q, q < h → d_b (B (g (2 * q)).toNatClampNeg) (g (2 * q + 1)).toNatClampNeg = true := by
  unfold d_tok
  rw [decide_eq_true_eq]
  constructor
  · intro H q hq
    obtain ⟨i, j, hi, hj, hij, e1, e2⟩ := d_two_n (h2 q hq)
    have b1 := (ht i j (by omega) (by omega)).mpr ⟨q, hq, e1, e2⟩
    have b2 : d_b (t i &&& (B i ^^^ Int32.ofInt (-1))) j = d_b 0 j := by rw [H i hi]
    rw [d_band, d_bnot _ (by omega), d_bz0, b1] at b2
    rw [e1, e2, d_nn (by omega), d_nn (by omega)]
    simpa using b2
  · intro H i hi
    apply d_bx
    intro j hj
    rw [d_band, d_bnot _ hj, d_bz0]
    cases c : d_b (t i) j with
    | false => rfl
    | true =>
      obtain ⟨q, hq, e1, e2⟩ := (ht i j (by omega) hj).mp c
      have b := H q hq
      rw [e1, e2, d_nn (by omega), d_nn (by omega)] at b
      rw [b]; rfl
theorem d_TI_s {n k i j : Nat} {g t : Nat → Int32} (hn : n ≤ 8) (ht : d_TI g k t) (hi : i < n) (hj : j < n) (e1 : g (2 * k) = Int32.ofNat i) (e2 : g (2 * k + 1) = Int32.ofNat j) : d_TI g (k + 1) (upd t i (t i ||| d_one j)) := by
  intro p q hp hq
  rw [d_uo t (show j < 32 by omega), Bool.or_eq_true, Bool.and_eq_true, decide_eq_true_eq, decide_eq_true_eq, ht p q hp hq]
  constructor
  · rintro (⟨x, h1, h2, h3⟩ | ⟨rfl, rfl⟩)
    · exact ⟨x, by omega, h2, h3⟩
    · exact ⟨k, by omega, e1, e2⟩
  · rintro ⟨x, h1, h2, h3⟩
    by_cases z : x = k
    · subst z
      refine Or.inr ⟨?_, ?_⟩
      · have := e1.symm.trans h2
        rw [d_eq (by omega) (by omega)] at this
        exact this.symm
      · have := e2.symm.trans h3
        rw [d_eq (by omega) (by omega)] at this
        exact this.symm
    · exact Or.inl ⟨x, by omega, h2, h3⟩
section PLAYEDX
variable {X : Nat → Option HO} {a nx n r c m h : Nat} {hi : Int32} {P K F : Nat → Nat} {lw : Int32} {B g t0 : Nat → Int32}
theorem x_pairs (hX : d_CX X a hi) (G : d_LG a nx X (a + 2) P K F n lw B) (ha : a + 14 ≤ nx) (hr : a + 14 ≤ r ∧ r < nx ∧ a + 14 ≤ c ∧ c < nx) (W : d_RW X r c 0 m g) (hm : m = 2 * h) :
    ∃ q, iter (f10_played_L57 a r) FU (Int32.ofInt 0, ((va_up X (a + 13) (d_A 8 (fun j => if j < 8 then Int32.ofInt 0 else t0 j)), nx) : HM)) = some q ∧ ((∃ t, q = .inr ((va_up X (a + 13) (d_A 8 t), nx) : HM) ∧ d_TI g h t ∧ ∀ q, q < h → d_two n (g (2 * q)) (g (2 * q + 1)) = true) ∨ (∃ t, q = .inl ((Int8.ofInt (-13)).toInt32, ((va_up X (a + 13) (d_A 8 t), nx) : HM)) ∧ ¬ ∀ q, q < h → d_two n (g (2 * q)) (g (2 * q + 1)) = true)) := by
  have hm100 := W.2.2.1
  have hn : n ≤ 8 := G.1.2.2
  refine d_it (step := f10_played_L57 a r) (fun k st => ∃ t, st = (Int32.ofNat (2 * k), ((va_up X (a + 13) (d_A 8 t), nx) : HM)) ∧ d_TI g k t ∧ ∀ q, q < k → d_two n (g (2 * q)) (g (2 * q + 1)) = true) _ h ?_ ?_ FU 0 _ (by omega) (by unfold FU; omega) ⟨_, rfl, ?_, fun q hq => by omega⟩
  · rintro k st hk ⟨t, rfl, t1, t2⟩
    have W1 : d_RW (va_up X (a + 13) (d_A 8 t)) r c 0 m g := ⟨(va_up_ne _ _ (by omega)).trans W.1, (va_up_ne _ _ (by omega)).trans W.2.1, W.2.2⟩
    have hX1 : d_CX (va_up X (a + 13) (d_A 8 t)) a hi := (va_up_ne _ _ (by omega)).trans hX
    have G1 : d_LG a nx (va_up X (a + 13) (d_A 8 t)) (a + 2) P K F n lw B := d_LG_fr G (Nat.le_refl _) (fun q hq => va_up_ne _ _ (by have := (d_ok_lt ha hq).2.1; omega)) (va_up_ne _ _ (by omega)) (va_up_ne _ _ (by omega)) (va_up_ne _ _ (by omega))
    have xt : ∀ p q, f2_hasBoth (va_up X (a + 13) (d_A 8 t), nx) (a + 2) p q = some (d_i (d_two n p q)) := fun p q => by
      have := x_two (nx := nx) (B := B) G1.1 p q
      rwa [d_cB_e G1.2.1] at this
    have c7 : hfld (va_up X (a + 13) (d_A 8 t), nx) [10] 7 a = some (.ref (a + 13)) := c_f hX1
    unfold f10_played_L57
    simp only [r_c W1, r_size W1, obd, d_su, d_lef (show 2 * k + 1 < m by omega) (by omega), if_false, r_at W1, d_is_i (show 2 * k < m by omega) (by omega), d_is_i (show 2 * k + 1 < m by omega) (by omega), if_true, d_nn (show 2 * k < 2147483648 by omega), d_nn (show 2 * k + 1 < 2147483648 by omega), c_now hX1, orf, d_ocl (d_hcls (σ := (va_up X (a + 13) (d_A 8 t), nx)) G1.1.1.1), xt, d_i0]
    cases e : d_two n (g (2 * k)) (g (2 * k + 1)) with
    | false =>
      rw [if_pos rfl]
      exact Or.inr ⟨_, rfl, Or.inr ⟨t, rfl, fun z => by rw [z k hk] at e; cases e⟩⟩
    | true =>
      obtain ⟨i, j, hi2, hj, hij, e1, e2⟩ := d_two_n e
      rw [if_neg (by simp)]
      simp only [c7, e1, e2, d_ild _ (va_up_self X (a + 13) (d_A 8 t)) (show i < 8 by omega) (show 8 ≤ 1000 by omega), d_ast (σ := (va_up X (a + 13) (d_A 8 t), nx)) (va_up_self X (a + 13) (d_A 8 t)) (show i < 8 by omega) (show 8 ≤ 1000 by omega), d_one_e (show j < 32 by omega), d_su2]
      refine Or.inl ⟨_, rfl, upd t i (t i ||| d_one j), ?_, d_TI_s hn t1 hi2 hj e1 e2, fun q hq => ?_⟩
      · unfold hset
        show (_, (va_up (va_up X (a + 13) _) (a + 13) _, nx)) = _
        rw [d_up_up]
      · by_cases z : q = k
        · rw [z]; exact e
        · exact t2 q (by omega)
  · rintro st ⟨t, rfl, t1, t2⟩
    have W1 : d_RW (va_up X (a + 13) (d_A 8 t)) r c 0 m g := ⟨(va_up_ne _ _ (by omega)).trans W.1, (va_up_ne _ _ (by omega)).trans W.2.1, W.2.2⟩
    unfold f10_played_L57
    simp only [r_c W1, r_size W1, obd, d_su, d_le (show m < 2147483648 by omega) (show 2 * h + 1 < 2147483648 by omega)]
    rw [if_pos (by omega)]
    exact ⟨_, rfl, Or.inl ⟨t, rfl, t1, t2⟩⟩
  · intro i j hi2 hj
    show (d_b (if i < 8 then Int32.ofInt 0 else t0 i) j = true ↔ _)
    rw [if_pos hi2, d_bz]
    constructor
    · intro z; cases z
    · rintro ⟨q, hq, -⟩; omega
end PLAYEDX
section PLAYEDM
variable {Z : Nat → Option HO} {ma nx n m h d : Nat} {hi th po ba en lt lp sd : Int32} {K F : Nat → Nat} {lw : Int32} {S B g sz el : Nat → Int32}
theorem m_pairs (hM : d_MO (d_mS Z ma S) ma hi th po ba en lt lp sd) (h7 : d_mS Z ma S (ma + 7) = d_A 8 sz) (h8 : d_mS Z ma S (ma + 8) = d_A 800 el) (hS : d_MS S n K F B lw) (hn : n ≤ 8) (hd : d < 8) (hm : m = 2 * h) (hm1 : m ≤ 100) (hz : sz d = Int32.ofNat m) (hg : ∀ i, i < m → g i = el (100 * d + i)) :
    ∃ q, iter (f11_played_L53 (d_mS Z ma S, nx) ma (Int32.ofNat d)) FU (Int32.ofInt 0, Int32.ofInt 0) = some q ∧ ((q = Int32.ofInt 0 ∧ ∀ q, q < h → d_two n (g (2 * q)) (g (2 * q + 1)) = true) ∨ (q = (Int8.ofInt (-13)).toInt32 ∧ ¬ ∀ q, q < h → d_two n (g (2 * q)) (g (2 * q + 1)) = true)) := by
  have Zz : d_MZ Z ma := d_MO_Z (show d_MO Z ma hi th po ba en lt lp sd from d_mS_0.symm.trans hM)
  refine d_it (step := f11_played_L53 (d_mS Z ma S, nx) ma (Int32.ofNat d)) (fun k v => (v = (Int32.ofInt 0, Int32.ofNat (2 * k)) ∧ ∀ q, q < k → d_two n (g (2 * q)) (g (2 * q + 1)) = true) ∨ (v = ((Int8.ofInt (-13)).toInt32, Int32.ofNat (2 * k)) ∧ ¬ ∀ q, q < h → d_two n (g (2 * q)) (g (2 * q + 1)) = true)) _ h ?_ ?_ FU 0 _ (by omega) (by unfold FU; omega) (Or.inl ⟨rfl, fun q hq => by omega⟩)
  · rintro k v hk (⟨rfl, t1⟩ | ⟨rfl, t1⟩)
    · unfold f11_played_L53
      simp only [if_pos (show Int32.ofInt 0 = 0 from rfl), n_6 hM, obd, orf, d_ild _ h7 hd (by omega), hz, d_lef (show 2 * k < m by omega) (by omega), if_false, n_c hM, m_told hM h8 hd (show 2 * k < 100 by omega), d_su, m_told hM h8 hd (show 2 * k + 1 < 100 by omega), m_two Zz hS hn, d_i0, d_su2]
      rw [← hg (2 * k) (by omega), ← hg (2 * k + 1) (by omega)]
      cases e : d_two n (g (2 * k)) (g (2 * k + 1)) with
      | false =>
        rw [if_pos rfl]
        exact Or.inl ⟨_, rfl, Or.inr ⟨rfl, fun z => by rw [z k hk] at e; cases e⟩⟩
      | true =>
        rw [if_neg (by simp)]
        exact Or.inl ⟨_, rfl, Or.inl ⟨rfl, fun q hq => by
          by_cases z : q = k
          · rw [z]; exact e
          · exact t1 q (by omega)⟩⟩
    · unfold f11_played_L53
      simp only [if_neg (show ¬ (Int8.ofInt (-13)).toInt32 = 0 by decide)]
      exact Or.inr ⟨_, rfl, Or.inr ⟨rfl, t1⟩⟩
  · rintro v (⟨rfl, t1⟩ | ⟨rfl, t1⟩)
    · unfold f11_played_L53
      simp only [if_pos (show Int32.ofInt 0 = 0 from rfl), n_6 hM, obd, orf, d_ild _ h7 hd (by omega), hz, hm, d_let, if_true]
      exact ⟨_, rfl, Or.inl ⟨rfl, t1⟩⟩
    · unfold f11_played_L53
      simp only [if_neg (show ¬ (Int8.ofInt (-13)).toInt32 = 0 by decide)]
      exact ⟨_, rfl, Or.inr ⟨rfl, t1⟩⟩
theorem m_asPlayed (hM : d_MO (d_mS Z ma S) ma hi th po ba en lt lp sd) (h7 : d_mS Z ma S (ma + 7) = d_A 8 sz) (h8 : d_mS Z ma S (ma + 8) = d_A 800 el) (hS : d_MS S n K F B lw) (hn : n ≤ 8) (hd : d < 8) (hm : m = 2 * h) (hm1 : m ≤ 100) (hz : sz d = Int32.ofNat m) (hg : ∀ i, i < m → g i = el (100 * d + i)) {t : Nat → Int32} (ht : d_TI g h t) (h2 : ∀ q, q < h → d_two n (g (2 * q)) (g (2 * q + 1)) = true) :
    f11_isAsPlayed (d_mS Z ma S, nx) ma (Int32.ofNat d) = some (d_i (d_tok n t B)) := by
  have Zz : d_MZ Z ma := d_MO_Z (show d_MO Z ma hi th po ba en lt lp sd from d_mS_0.symm.trans hM)
  have tk := d_TI_tok B hn ht h2
  obtain ⟨r, h1, h3⟩ := d_it (step := f11_isAsPlayed_L2 (d_mS Z ma S, nx) ma (Int32.ofNat d)) (fun k v => v = Int32.ofNat (2 * k) ∧ ∀ q, q < k → d_b (B (g (2 * q)).toNatClampNeg) (g (2 * q + 1)).toNatClampNeg = true) (fun r => (r = .inr () ∧ d_tok n t B = true) ∨ (r = .inl (Int32.ofInt 0) ∧ d_tok n t B = false)) h (by
      rintro k v hk ⟨rfl, t1⟩
      obtain ⟨i, j, hi2, hj, hij, e1, e2⟩ := d_two_n (h2 k hk)
      have g1 : el (100 * d + 2 * k) = Int32.ofNat i := (hg _ (by omega)).symm.trans e1
      have g2 : el (100 * d + (2 * k + 1)) = Int32.ofNat j := (hg _ (by omega)).symm.trans e2
      unfold f11_isAsPlayed_L2
      simp only [n_6 hM, obd, orf, d_ild _ h7 hd (by omega), hz, d_lef (show 2 * k < m by omega) (by omega), if_false, n_c hM, m_told hM h8 hd (show 2 * k < 100 by omega), g1, m_beaten Zz (show i < 8 by omega), (hS.2.2 i hi2).2.2, d_su, m_told hM h8 hd (show 2 * k + 1 < 100 by omega), g2, d_bit _ (show j < 32 by omega), d_i0, d_su2]
      cases e : d_b (B i) j with
      | false =>
        rw [if_pos rfl]
        refine Or.inr ⟨_, rfl, Or.inr ⟨rfl, ?_⟩⟩
        cases c : d_tok n t B with
        | false => rfl
        | true =>
          have := tk.mp c k hk
          rw [e1, e2, d_nn (by omega), d_nn (by omega), e] at this
          cases this
      | true =>
        rw [if_neg (by simp)]
        exact Or.inl ⟨_, rfl, rfl, fun q hq => by
          by_cases z : q = k
          · rw [z, e1, e2, d_nn (by omega), d_nn (by omega)]; exact e
          · exact t1 q (by omega)⟩) (by
      rintro v ⟨rfl, t1⟩
      unfold f11_isAsPlayed_L2
      simp only [n_6 hM, obd, orf, d_ild _ h7 hd (by omega), hz, hm, d_let, if_true]
      exact ⟨_, rfl, Or.inl ⟨rfl, tk.mpr t1⟩⟩) FU 0 (Int32.ofInt 0) (by omega) (by unfold FU; omega) ⟨rfl, fun q hq => by omega⟩
  unfold f11_isAsPlayed
  rw [h1]
  rcases h3 with ⟨rfl, e⟩ | ⟨rfl, e⟩
  · rw [e]; rfl
  · rw [e]; rfl
end PLAYEDM
