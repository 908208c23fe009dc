/-! PURE: the least to turn, the model -/
def d_mw (Z : Nat → Option HO) (ma : Nat) (hi th po ba en sd lt lp : Int32) : Nat → Option HO := va_up Z ma (some (.inl (11, [.ref (ma + 1), .ref (ma + 2), .ref (ma + 3), .ref (ma + 4), .ref (ma + 5), .ref (ma + 6), .ref (ma + 7), .ref (ma + 8), .ref (ma + 9), .ref (ma + 10), .int hi, .int th, .int po, .int ba, .int en, .ref (ma + 11), .int lt, .int lp, .int sd])))
def d_py (n : Nat) (K F : Nat → Nat) (lw : Int32) (u : Nat → Nat → Bool) (l f : Nat) (sel : Nat → Nat → Bool) (t c : Nat) : Prop := d_ps (d_law n K F lw u) (d_cst K F u) (n * n) (fun k => decide (k / n < k % n)) (fun k => k / n) (fun k => k % n) l f sel t c
theorem d_dn {k n : Nat} (hk : k < 1000) (hn : n < 1000) : Int32.ofNat k / Int32.ofNat n = Int32.ofNat (k / n) := (Int32.ofNat_div (Nat.lt_trans hk (by decide)) (Nat.lt_trans hn (by decide))).symm
theorem d_dm {k n : Nat} (hk : k < 1000) (hn : n < 1000) : Int32.ofNat k - Int32.ofNat k / Int32.ofNat n * Int32.ofNat n = Int32.ofNat (k % n) := by
  have e : k = n * (k / n) + k % n := (Nat.div_add_mod k n).symm
  have e2 : k / n * n = n * (k / n) := Nat.mul_comm _ _
  rw [d_dn hk hn, ← Int32.ofNat_mul, ← Int32.ofNat_sub _ _ (by omega)]
  congr 1
  omega
theorem d_dm2 {k n : Nat} (hk : k < 1000) (hn : n < 1000) : Int32.ofNat k - Int32.ofNat (k / n) * Int32.ofNat n = Int32.ofNat (k % n) := by
  rw [← d_dm hk hn, d_dn hk hn]
section TRIES
variable {Z : Nat → Option HO} {ma n nx : Nat} {hi th po ba en sd : Int32} {S : Nat → Int32} {K F : Nat → Nat} {lw : Int32}
theorem d_mw_MO (lt lp : Int32) : d_MO (d_mw Z ma hi th po ba en sd lt lp) ma hi th po ba en lt lp sd := va_up_self _ _ _
theorem d_mw_Z (lt lp : Int32) : d_MZ (d_mw Z ma hi th po ba en sd lt lp) ma := d_MO_Z (d_mw_MO lt lp)
theorem d_mw_ne {q : Nat} (h : q ≠ ma) (lt lp : Int32) : d_mw Z ma hi th po ba en sd lt lp q = Z q := va_up_ne _ _ h
theorem m_f16 (lt lp : Int32) : hfi (d_mS (d_mw Z ma hi th po ba en sd lt lp) ma S, nx) [11] 16 ma = some lt := d_hfi (σ := (d_mS (d_mw Z ma hi th po ba en sd lt lp) ma S, nx)) (d_mS_0.trans (d_mw_MO lt lp)) rfl rfl
theorem m_f17 (lt lp : Int32) : hfi (d_mS (d_mw Z ma hi th po ba en sd lt lp) ma S, nx) [11] 17 ma = some lp := d_hfi (σ := (d_mS (d_mw Z ma hi th po ba en sd lt lp) ma S, nx)) (d_mS_0.trans (d_mw_MO lt lp)) rfl rfl
theorem m_p16 (lt lp y : Int32) : hput (d_mS (d_mw Z ma hi th po ba en sd lt lp) ma S, nx) [11] 16 ma (.int y) = some (d_mS (d_mw Z ma hi th po ba en sd y lp) ma S, nx) := by
  rw [show d_mS (d_mw Z ma hi th po ba en sd y lp) ma S = va_up (d_mS (d_mw Z ma hi th po ba en sd lt lp) ma S) ma (some (.inl (11, [.ref (ma + 1), .ref (ma + 2), .ref (ma + 3), .ref (ma + 4), .ref (ma + 5), .ref (ma + 6), .ref (ma + 7), .ref (ma + 8), .ref (ma + 9), .ref (ma + 10), .int hi, .int th, .int po, .int ba, .int en, .ref (ma + 11), .int y, .int lp, .int sd]))) from (d_up_cm Z (show ma ≠ ma + 1 by omega) _ _ _).symm]
  unfold hput hobj
  simp only [show d_mS (d_mw Z ma hi th po ba en sd lt lp) ma S ma = _ from d_mS_0.trans (d_mw_MO lt lp)]
  rfl
theorem m_p17 (lt lp y : Int32) : hput (d_mS (d_mw Z ma hi th po ba en sd lt lp) ma S, nx) [11] 17 ma (.int y) = some (d_mS (d_mw Z ma hi th po ba en sd lt y) ma S, nx) := by
  rw [show d_mS (d_mw Z ma hi th po ba en sd lt y) ma S = va_up (d_mS (d_mw Z ma hi th po ba en sd lt lp) ma S) ma (some (.inl (11, [.ref (ma + 1), .ref (ma + 2), .ref (ma + 3), .ref (ma + 4), .ref (ma + 5), .ref (ma + 6), .ref (ma + 7), .ref (ma + 8), .ref (ma + 9), .ref (ma + 10), .int hi, .int th, .int po, .int ba, .int en, .ref (ma + 11), .int lt, .int y, .int sd]))) from (d_up_cm Z (show ma ≠ ma + 1 by omega) _ _ _).symm]
  unfold hput hobj
  simp only [show d_mS (d_mw Z ma hi th po ba en sd lt lp) ma S ma = _ from d_mS_0.trans (d_mw_MO lt lp)]
  rfl
/-- what is lawful is told at once -/
theorem m_head (rec : HM → Nat → Int32 → Int32 → Int32 → Option HM) {B : Nat → Int32} (hS : d_MS S n K F B lw) (hn : n ≤ 8) (kf : d_KF n K F) (T : d_TB n B) (hl : lw = 1 ∨ lw = 2) {c : Bool} (hc : d_lw n K F B lw = c) {D E : Nat → Prop} {lt lp : Int32} (hD : d_ls D lt) (hE : d_ls E lp) {t0 c0 : Nat} (ht : t0 < 1000) (hc0 : c0 < 1000) (p1 : Int32) :
    ∃ lt1 lp1, f11_tries_B rec (d_mS (d_mw Z ma hi th po ba en sd lt lp) ma S, nx) ma p1 (Int32.ofNat t0) (Int32.ofNat c0) = f11_tries_K47 rec (d_mS (d_mw Z ma hi th po ba en sd lt1 lp1) ma S, nx) ma p1 (Int32.ofNat t0) (Int32.ofNat c0) ∧ d_ls (fun v => D v ∨ (c = true ∧ v = t0)) lt1 ∧ d_ls (fun v => E v ∨ (c = true ∧ v = c0)) lp1 := by
  have ml := m_lawful (nx := nx) (d_mw_Z (Z := Z) (ma := ma) (hi := hi) (th := th) (po := po) (ba := ba) (en := en) (sd := sd) lt lp) hS hn kf T hl
  rw [hc] at ml
  cases c with
  | false =>
    refine ⟨lt, lp, ?_, d_ls_c hD (fun v => ⟨Or.inl, fun h => h.elim id (fun q => by cases q.1)⟩), d_ls_c hE (fun v => ⟨Or.inl, fun h => h.elim id (fun q => by cases q.1)⟩)⟩
    unfold f11_tries_B
    simp only [m_c (d_mw_Z _ _), ml, obd, d_i0, if_true]
  | true =>
    refine ⟨_, _, ?_, d_ls_c (d_ls_add hD ht) (fun v => ⟨fun h => h.elim Or.inl (fun q => Or.inr ⟨rfl, q⟩), fun h => h.elim Or.inl (fun q => Or.inr q.2)⟩), d_ls_c (d_ls_add hE hc0) (fun v => ⟨fun h => h.elim Or.inl (fun q => Or.inr ⟨rfl, q⟩), fun h => h.elim Or.inl (fun q => Or.inr q.2)⟩)⟩
    have k27 : ∀ lt, f11_tries_K27 rec (d_mS (d_mw Z ma hi th po ba en sd lt lp) ma S, nx) ma p1 (Int32.ofNat t0) (Int32.ofNat c0) = f11_tries_K47 rec (d_mS (d_mw Z ma hi th po ba en sd lt (if lp = (Int8.ofInt (-4)).toInt32 then Int32.ofNat c0 else if lp ≤ Int32.ofNat c0 then lp else Int32.ofNat c0)) ma S, nx) ma p1 (Int32.ofNat t0) (Int32.ofNat c0) := fun lt => by
      unfold f11_tries_K27
      simp only [m_f17, obd, d_ls_neg hE, m_p17]
      by_cases a : lp = (Int8.ofInt (-4)).toInt32
      · simp only [if_pos a]
      · simp only [if_neg a]
        by_cases b : lp ≤ Int32.ofNat c0
        · simp only [if_pos b]
        · simp only [if_neg b]
    have k22 : f11_tries_K22 rec (d_mS (d_mw Z ma hi th po ba en sd lt lp) ma S, nx) ma p1 (Int32.ofNat t0) (Int32.ofNat c0) = f11_tries_K27 rec (d_mS (d_mw Z ma hi th po ba en sd (Int32.ofNat t0) lp) ma S, nx) ma p1 (Int32.ofNat t0) (Int32.ofNat c0) := by
      unfold f11_tries_K22
      simp only [m_p16, obd]
    unfold f11_tries_B
    simp only [m_c (d_mw_Z _ _), ml, obd, d_i0, if_neg (show ¬ true = false by simp), m_f16, d_ls_neg hD, k22, k27]
    by_cases a : lt = (Int8.ofInt (-4)).toInt32
    · simp only [if_pos a]
    · simp only [if_neg a]
      by_cases b : lt ≤ Int32.ofNat t0
      · simp only [if_pos b]
      · simp only [if_neg b]
theorem d_py_b {u : Nat → Nat → Bool} (kf : d_KF n K F) {l f : Nat} {sel : Nat → Nat → Bool} {t c : Nat} (h : d_py n K F lw u l f sel t c) : t ≤ l ∧ c ≤ 12 * l :=
  d_ps_b (fun k hk hv => by
    have h1 : k / n < k % n := of_decide_eq_true hv
    have n0 : 0 < n := by
      rcases Nat.eq_zero_or_pos n with z | z
      · rw [z] at hk; omega
      · exact z
    have h2 : k % n < n := Nat.mod_lt _ n0
    exact d_cst_b kf u (show k / n < n by omega) h2) h
theorem m_tries (kf : d_KF n K F) (hn : n ≤ 8) (hl : lw = 1 ∨ lw = 2) (u : Nat → Nat → Bool) : ∀ l fu f sel S B lt lp t0 c0 (D E : Nat → Prop), l < fu → f ≤ n * n → d_MS S n K F B lw → d_TB n B → (∀ p q, p < q → q < n → d_b (B p) q = (u p q ^^ sel p q)) → (∀ k, f ≤ k → k < n * n → k / n < k % n → sel (k / n) (k % n) = false) → t0 + l = 3 → c0 + 12 * l ≤ 36 → d_ls D lt → d_ls E lp →
    ∃ S' lt' lp', f11_tries fu (d_mS (d_mw Z ma hi th po ba en sd lt lp) ma S, nx) ma (Int32.ofNat f) (Int32.ofNat t0) (Int32.ofNat c0) = some (d_mS (d_mw Z ma hi th po ba en sd lt' lp') ma S', nx) ∧ d_MS S' n K F B lw ∧ d_ls (fun v => D v ∨ ∃ t c, d_py n K F lw u l f sel t c ∧ v = t0 + t) lt' ∧ d_ls (fun v => E v ∨ ∃ t c, d_py n K F lw u l f sel t c ∧ v = c0 + c) lp'
  | l, 0, f, sel, S, B, lt, lp, t0, c0, D, E, h, _, _, _, _, _, _, _, _, _ => by omega
  | l, fu + 1, f, sel, S, B, lt, lp, t0, c0, D, E, hf, hfm, hS, T, hb, hs, ht0, hc0, hD, hE => by
    have h64 : n * n ≤ 64 := Nat.mul_le_mul hn hn
    have lwe : d_lw n K F B lw = d_law n K F lw u sel := d_ub_lw (u := fun p q => u p q ^^ sel p q) K F lw hn T hb
    obtain ⟨lt1, lp1, hB, hD1, hE1⟩ := m_head (nx := nx) (Z := Z) (ma := ma) (hi := hi) (th := th) (po := po) (ba := ba) (en := en) (sd := sd) (f11_tries fu) hS hn kf T hl lwe hD hE (show t0 < 1000 by omega) (show c0 < 1000 by omega) (Int32.ofNat f)
    show ∃ S' lt' lp', f11_tries_B (f11_tries fu) _ _ _ _ _ = _ ∧ _
    rw [hB]
    unfold f11_tries_K47
    cases l with
    | zero =>
      rw [if_pos (show Int32.ofNat t0 = Int32.ofInt 3 from by rw [show t0 = 3 by omega]; rfl)]
      refine ⟨S, lt1, lp1, rfl, hS, d_ls_c hD1 (fun v => ?_), d_ls_c hE1 (fun v => ?_)⟩
      · constructor
        · rintro (h | ⟨h1, h2⟩)
          · exact Or.inl h
          · exact Or.inr ⟨0, 0, ⟨rfl, rfl, h1⟩, h2⟩
        · rintro (h | ⟨t, c, ⟨rfl, rfl, h1⟩, h2⟩)
          · exact Or.inl h
          · exact Or.inr ⟨h1, h2⟩
      · constructor
        · rintro (h | ⟨h1, h2⟩)
          · exact Or.inl h
          · exact Or.inr ⟨0, 0, ⟨rfl, rfl, h1⟩, h2⟩
        · rintro (h | ⟨t, c, ⟨rfl, rfl, h1⟩, h2⟩)
          · exact Or.inl h
          · exact Or.inr ⟨h1, h2⟩
    | succ l =>
      rw [if_neg (show ¬ Int32.ofNat t0 = Int32.ofInt 3 from by
        rw [show Int32.ofInt 3 = Int32.ofNat 3 from rfl, d_eq (by omega) (by omega)]; omega)]
      let Dk : Nat → Nat → Prop := fun k v => (D v ∨ (d_law n K F lw u sel = true ∧ v = t0)) ∨ ∃ k' t' c', (f ≤ k' ∧ k' < k ∧ k' < n * n ∧ k' / n < k' % n) ∧ d_py n K F lw u l (k' + 1) (d_sx sel (k' / n) (k' % n)) t' c' ∧ v = t0 + 1 + t'
      let Ek : Nat → Nat → Prop := fun k v => (E v ∨ (d_law n K F lw u sel = true ∧ v = c0)) ∨ ∃ k' t' c', (f ≤ k' ∧ k' < k ∧ k' < n * n ∧ k' / n < k' % n) ∧ d_py n K F lw u l (k' + 1) (d_sx sel (k' / n) (k' % n)) t' c' ∧ v = c0 + d_cst K F u (k' / n) (k' % n) + c'
      obtain ⟨r, g1, S', lt', lp', rfl, g2, g3, g4⟩ := d_it (step := f11_tries_L56 (f11_tries fu) ma (Int32.ofNat t0) (Int32.ofNat c0)) (fun k st => ∃ S' lt' lp', st = (Int32.ofNat k, ((d_mS (d_mw Z ma hi th po ba en sd lt' lp') ma S', nx) : HM)) ∧ f ≤ k ∧ d_MS S' n K F B lw ∧ d_ls (Dk k) lt' ∧ d_ls (Ek k) lp') (fun r => ∃ S' lt' lp', r = ((d_mS (d_mw Z ma hi th po ba en sd lt' lp') ma S', nx) : HM) ∧ d_MS S' n K F B lw ∧ d_ls (Dk (n * n)) lt' ∧ d_ls (Ek (n * n)) lp') (n * n) (by
          rintro k st hk ⟨S', lt', lp', rfl, hfk, hS', hD', hE'⟩
          have n0 : 0 < n := by
            rcases Nat.eq_zero_or_pos n with z | z
            · rw [z] at hk; omega
            · exact z
          have hq : k % n < n := Nat.mod_lt _ n0
          have nz : ¬ Int32.ofNat n = 0 := (d_pos (show 1 ≤ n by omega) (by omega)).2
          unfold f11_tries_L56
          simp only [m_f0 (d_mw_Z _ _), obd, orf, m_ld0, hS'.1, ← Int32.ofNat_mul, d_lef hk (by omega), if_false, onz, if_neg nz, d_dn (show k < 1000 by omega) (show n < 1000 by omega)]
          simp only [Int32.ofNat_mul, d_dm2 (show k < 1000 by omega) (show n < 1000 by omega), d_lt (show k / n < 2147483648 from Nat.lt_of_le_of_lt (Nat.div_le_self _ _) (by omega)) (show k % n < 2147483648 by omega)]
          by_cases v : k / n < k % n
          · rw [if_pos v]
            have hp : k / n < n := by omega
            have hbv : d_b (B (k / n)) (k % n) = u (k / n) (k % n) := by rw [hb _ _ v hq, hs k hfk hk v, Bool.xor_false]
            have cb : d_cst K F u (k / n) (k % n) ≤ 12 := d_cst_b kf u hp hq
            have T2 := d_TB_fl hn T hp hq (show k / n ≠ k % n by omega)
            obtain ⟨S2, q1, q2⟩ := m_turns (nx := nx) (d_mw_Z (Z := Z) (ma := ma) (hi := hi) (th := th) (po := po) (ba := ba) (en := en) (sd := sd) lt' lp') hS' hn T hp hq (show k / n ≠ k % n by omega)
            obtain ⟨S3, lt2, lp2, q3, q4, q5, q6⟩ := m_tries kf hn hl u l fu (k + 1) (d_sx sel (k / n) (k % n)) S2 (d_fl B (k / n) (k % n)) lt' lp' (t0 + 1) (c0 + d_cst K F u (k / n) (k % n)) (Dk k) (Ek k) (by omega) (by omega) q2 T2 (d_fl_up hn hp hq v hb) (fun k' a1 a2 a3 => by
              unfold d_sx
              rw [hs k' (by omega) a2 a3, Bool.false_xor]
              by_cases z : k' / n = k / n
              · have z2 : ¬ k' % n = k % n := fun z2 => by
                  have e1 := Nat.div_add_mod k n
                  have e2 := Nat.div_add_mod k' n
                  rw [z, z2] at e2
                  omega
                rw [decide_eq_false z2]; simp
              · rw [decide_eq_false z]; rfl) (by omega) (by omega) hD' hE'
            obtain ⟨S4, q7, q8⟩ := m_turns (nx := nx) (d_mw_Z (Z := Z) (ma := ma) (hi := hi) (th := th) (po := po) (ba := ba) (en := en) (sd := sd) lt2 lp2) q4 hn T2 hp hq (show k / n ≠ k % n by omega)
            rw [d_fl_tn B (show k / n ≠ k % n by omega)] at q8
            have k128 : ∀ w, w < n → d_price (K w) (F w) = d_cst K F u (k / n) (k % n) → f11_tries_K128 (f11_tries fu) (d_mS (d_mw Z ma hi th po ba en sd lt' lp') ma S', nx) ma (Int32.ofNat t0) (Int32.ofNat c0) (Int32.ofNat k) (Int32.ofNat (k / n)) (Int32.ofNat (k % n)) (Int32.ofNat w) = some (.inl (Int32.ofNat (k + 1), (d_mS (d_mw Z ma hi th po ba en sd lt2 lp2) ma S4, nx))) := fun w hw e => by
              unfold f11_tries_K128
              simp only [m_c (d_mw_Z _ _), m_kind (d_mw_Z _ _) (show w < 8 by omega), m_figure (d_mw_Z _ _) (show w < 8 by omega), (hS'.2.2 w hw).1, (hS'.2.2 w hw).2.1, obd, d_mprice (kf w hw).1 (kf w hw).2, e, q1, d_su, d_ad, q3, q7]
            refine Or.inl ⟨(Int32.ofNat (k + 1), ((d_mS (d_mw Z ma hi th po ba en sd lt2 lp2) ma S4, nx) : HM)), ?_, S4, lt2, lp2, rfl, by omega, q8, d_ls_c q5 (fun v' => ?_), d_ls_c q6 (fun v' => ?_)⟩
            · simp only [m_c (d_mw_Z _ _), m_beaten (d_mw_Z _ _) (show k / n < 8 by omega), (hS'.2.2 _ hp).2.2, d_bit _ (show k % n < 32 by omega), hbv, d_i1]
              cases e : u (k / n) (k % n) with
              | true =>
                rw [if_pos rfl]
                exact k128 (k / n) hp (by unfold d_cst; rw [e]; rfl)
              | false =>
                rw [if_neg (by simp)]
                exact k128 (k % n) hq (by unfold d_cst; rw [e]; rfl)
            · constructor
              · rintro (h | ⟨t, c, h1, h2⟩)
                · rcases h with h | ⟨k', t', c', a1, a2, a3⟩
                  · exact Or.inl h
                  · exact Or.inr ⟨k', t', c', by omega, a2, a3⟩
                · exact Or.inr ⟨k, t, c, by omega, h1, h2⟩
              · rintro (h | ⟨k', t', c', a1, a2, a3⟩)
                · exact Or.inl (Or.inl h)
                · by_cases z : k' = k
                  · subst z
                    exact Or.inr ⟨t', c', a2, a3⟩
                  · exact Or.inl (Or.inr ⟨k', t', c', by omega, a2, a3⟩)
            · constructor
              · rintro (h | ⟨t, c, h1, h2⟩)
                · rcases h with h | ⟨k', t', c', a1, a2, a3⟩
                  · exact Or.inl h
                  · exact Or.inr ⟨k', t', c', by omega, a2, a3⟩
                · exact Or.inr ⟨k, t, c, by omega, h1, h2⟩
              · rintro (h | ⟨k', t', c', a1, a2, a3⟩)
                · exact Or.inl (Or.inl h)
                · by_cases z : k' = k
                  · subst z
                    exact Or.inr ⟨t', c', a2, a3⟩
                  · exact Or.inl (Or.inr ⟨k', t', c', by omega, a2, a3⟩)
          · rw [if_neg v, d_su]
            refine Or.inl ⟨_, rfl, S', lt', lp', rfl, by omega, hS', d_ls_c hD' (fun v' => ?_), d_ls_c hE' (fun v' => ?_)⟩
            · constructor
              · rintro (h | ⟨k', t', c', a1, a2, a3⟩)
                · exact Or.inl h
                · exact Or.inr ⟨k', t', c', by omega, a2, a3⟩
              · rintro (h | ⟨k', t', c', a1, a2, a3⟩)
                · exact Or.inl h
                · by_cases z : k' = k
                  · subst z; exact absurd a1.2.2.2 v
                  · exact Or.inr ⟨k', t', c', by omega, a2, a3⟩
            · constructor
              · rintro (h | ⟨k', t', c', a1, a2, a3⟩)
                · exact Or.inl h
                · exact Or.inr ⟨k', t', c', by omega, a2, a3⟩
              · rintro (h | ⟨k', t', c', a1, a2, a3⟩)
                · exact Or.inl h
                · by_cases z : k' = k
                  · subst z; exact absurd a1.2.2.2 v
                  · exact Or.inr ⟨k', t', c', by omega, a2, a3⟩) (by
          rintro st ⟨S', lt', lp', rfl, hfk, hS', hD', hE'⟩
          unfold f11_tries_L56
          simp only [m_f0 (d_mw_Z _ _), obd, orf, m_ld0, hS'.1, ← Int32.ofNat_mul, d_let, if_true]
          exact ⟨_, rfl, S', lt', lp', rfl, hS', hD', hE'⟩) FU f (Int32.ofNat f, ((d_mS (d_mw Z ma hi th po ba en sd lt1 lp1) ma S, nx) : HM)) hfm (by unfold FU; omega) ⟨S, lt1, lp1, rfl, Nat.le_refl _, hS, d_ls_c hD1 (fun v => ⟨Or.inl, fun h => h.elim id (fun ⟨k', t', c', a1, _⟩ => by omega)⟩), d_ls_c hE1 (fun v => ⟨Or.inl, fun h => h.elim id (fun ⟨k', t', c', a1, _⟩ => by omega)⟩)⟩
      refine ⟨S', lt', lp', by rw [g1]; rfl, g2, d_ls_c g3 (fun v => ?_), d_ls_c g4 (fun v => ?_)⟩
      · constructor
        · rintro ((h | ⟨h1, h2⟩) | ⟨k', t', c', a1, a2, a3⟩)
          · exact Or.inl h
          · exact Or.inr ⟨0, 0, Or.inl ⟨rfl, rfl, h1⟩, h2⟩
          · exact Or.inr ⟨t' + 1, _, Or.inr ⟨k', t', c', ⟨a1.1, a1.2.2.1, decide_eq_true a1.2.2.2⟩, rfl, rfl, a2⟩, by omega⟩
        · rintro (h | ⟨t, c, h, hv⟩)
          · exact Or.inl (Or.inl h)
          · rcases h with ⟨rfl, rfl, h⟩ | ⟨k', t', c', ⟨a1, a2, a3⟩, rfl, rfl, h⟩
            · exact Or.inl (Or.inr ⟨h, hv⟩)
            · exact Or.inr ⟨k', t', c', ⟨a1, a2, a2, of_decide_eq_true a3⟩, h, by omega⟩
      · constructor
        · rintro ((h | ⟨h1, h2⟩) | ⟨k', t', c', a1, a2, a3⟩)
          · exact Or.inl h
          · exact Or.inr ⟨0, 0, Or.inl ⟨rfl, rfl, h1⟩, h2⟩
          · exact Or.inr ⟨t' + 1, d_cst K F u (k' / n) (k' % n) + c', Or.inr ⟨k', t', c', ⟨a1.1, a1.2.2.1, decide_eq_true a1.2.2.2⟩, rfl, rfl, a2⟩, by omega⟩
        · rintro (h | ⟨t, c, h, hv⟩)
          · exact Or.inl (Or.inl h)
          · rcases h with ⟨rfl, rfl, h⟩ | ⟨k', t', c', ⟨a1, a2, a3⟩, rfl, rfl, h⟩
            · exact Or.inl (Or.inr ⟨h, hv⟩)
            · exact Or.inr ⟨k', t', c', ⟨a1, a2, a2, of_decide_eq_true a3⟩, h, by have hv' : v = c0 + (d_cst K F u (k' / n) (k' % n) + c') := hv; omega⟩
end TRIES
