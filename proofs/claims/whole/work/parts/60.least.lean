/-! PURE: the least to turn, the class -/
theorem d_ls_join {D E : Nat → Prop} {r : Int32} {x : Nat} (h : d_ls D r) (hx : x < 1000) (hE : E x) (hl : ∀ v, E v → x ≤ v) : d_ls (fun v => D v ∨ E v) (if r = (Int8.ofInt (-4)).toInt32 then Int32.ofNat x else if r ≤ Int32.ofNat x then r else Int32.ofNat x) := by
  rcases d_ls_add h hx with ⟨_, b⟩ | ⟨v, a, b, c, d⟩
  · exact absurd (Or.inr rfl) (b x)
  · refine Or.inr ⟨v, a, ?_, c, fun v' q => ?_⟩
    · rcases b with b | b
      · exact Or.inl b
      · rw [b]; exact Or.inr hE
    · rcases q with q | q
      · exact d v' (Or.inl q)
      · have := d x (Or.inr rfl)
        have := hl v' q
        omega
def d_law (n : Nat) (K F : Nat → Nat) (lw : Int32) (u sel : Nat → Nat → Bool) : Bool := d_lw n K F (d_ub n (fun p q => u p q ^^ sel p q)) lw
def d_cst (K F : Nat → Nat) (u : Nat → Nat → Bool) (p q : Nat) : Nat := if u p q = true then d_price (K p) (F p) else d_price (K q) (F q)
def d_px (n : Nat) (K F : Nat → Nat) (lw : Int32) (u : Nat → Nat → Bool) (l f : Nat) (sel : Nat → Nat → Bool) (t c : Nat) : Prop := d_ps (d_law n K F lw u) (d_cst K F u) (n * (n - 1) / 2) (fun _ => true) tL tG l f sel t c
theorem d_prc {k f : Nat} (hk : k < 8) (hf : f < 10) : d_price k f ≤ 12 := (show ∀ k, k < 8 → ∀ f, f < 10 → d_price k f ≤ 12 by decide) k hk f hf
theorem d_cst_b {n : Nat} {K F : Nat → Nat} (hk : d_KF n K F) (u : Nat → Nat → Bool) {p q : Nat} (hp : p < n) (hq : q < n) : d_cst K F u p q ≤ 12 := by
  unfold d_cst
  split
  · exact d_prc (hk p hp).1 (hk p hp).2
  · exact d_prc (hk q hq).1 (hk q hq).2
theorem d_px_b {n : Nat} {K F : Nat → Nat} {lw : Int32} {u : Nat → Nat → Bool} (hn : n ≤ 8) (hk : d_KF n K F) {l f : Nat} {sel : Nat → Nat → Bool} {t c : Nat} (h : d_px n K F lw u l f sel t c) : t ≤ l ∧ c ≤ 12 * l :=
  d_ps_b (fun k hk2 _ => by
    obtain ⟨n1, n2⟩ := t_n hn hk2
    have := (t_e n2).2.2.1
    exact d_cst_b hk u (by omega) n1) h
theorem t_inj {k k' : Nat} (h : k < 28) (h' : k' < 28) (e1 : tL k = tL k') (e2 : tG k = tG k') : k = k' := by
  have q := t_e h
  have a1 : d_ix (tL k) (tG k) = k := by rw [t_ix h q.2.2.1 q.2.2.2]; exact ⟨rfl, rfl⟩
  have a2 : d_ix (tL k) (tG k) = k' := by rw [t_ix h' q.2.2.1 q.2.2.2]; exact ⟨e1, e2⟩
  omega
theorem d_fl_up {n : Nat} {B : Nat → Int32} (hn : n ≤ 8) {i j : Nat} (hi : i < n) (hj : j < n) (hij : i < j) {u sel : Nat → Nat → Bool} (hb : ∀ p q, p < q → q < n → d_b (B p) q = (u p q ^^ sel p q)) : ∀ p q, p < q → q < n → d_b (d_fl B i j p) q = (u p q ^^ d_sx sel i j p q) := by
  intro p q hpq hq
  rw [d_fl_b hn hi hj (by omega), hb p q hpq hq]
  unfold d_sx
  have : (decide (p = j) && decide (q = i)) = false := by
    by_cases z : p = j
    · rw [decide_eq_false (show ¬ q = i by omega)]; simp
    · rw [decide_eq_false z]; rfl
  rw [this, Bool.or_false, Bool.xor_assoc]
section LEAST
variable {X : Nat → Option HO} {ad n nx : Nat} {P K F : Nat → Nat} {lw : Int32}
theorem x_cost (L : d_LX X ad P K F n lw) (B : Nat → Int32) (u : Nat → Nat → Bool) {k : Nat} (hk : k < 28) (hb : d_b (B (tL k)) (tG k) = u (tL k) (tG k)) : f2_costOfTurn (d_cB X ad B, nx) ad (Int32.ofNat k) = some (Int32.ofNat (d_cst K F u (tL k) (tG k))) := by
  obtain ⟨h1, h2, h3, h4⟩ := t_e hk
  unfold f2_costOfTurn
  simp only [d_inb hk (show 28 ≤ 1000 by omega), ogd, x_f0 L, obd, orf, x_c L, d_nn (show k < 2147483648 by omega), h1, h2, x_hasBeaten L (show tL k < 8 by omega) (show tG k < 32 by omega), hb, d_i0, x_p L (show tL k < 8 by omega), x_p L h4, d_vcost (x_pe L (show tL k < 8 by omega)), d_vcost (x_pe L h4)]
  unfold d_cst
  cases u (tL k) (tG k) <;> rfl
def d_mu (p3 : Int32) (t c : Nat) : Nat := if p3 = 0 then t else c
theorem x_least (L : d_LX X ad P K F n lw) (u : Nat → Nat → Bool) (p3 : Int32) : ∀ l fu f sel B, l < fu → l ≤ 3 → f ≤ n * (n - 1) / 2 → d_TB n B → (∀ p q, p < q → q < n → d_b (B p) q = (u p q ^^ sel p q)) → (∀ k, f ≤ k → k < n * (n - 1) / 2 → sel (tL k) (tG k) = false) →
    ∃ r, f10_leastToTurn fu (d_cB X ad B, nx) ad (Int32.ofNat f) (Int32.ofNat l) p3 = some (r, (d_cB X ad B, nx)) ∧ d_ls (fun v => ∃ t c, d_px n K F lw u l f sel t c ∧ v = d_mu p3 t c) r
  | l, 0, f, sel, B, h, _, _, _, _, _ => by omega
  | l, fu + 1, f, sel, B, hf, hl3, hfm, T, hb, hs => by
    have hn : n ≤ 8 := L.2.2
    have h28 := d_28 hn
    have kf : d_KF n K F := d_LX_KF L
    have xl := x_lawful (nx := nx) L T
    rw [d_ub_lw (u := fun p q => u p q ^^ sel p q) K F lw hn T hb] at xl
    have xl' : f2_isLawful (d_cB X ad B, nx) ad = some (d_i (d_law n K F lw u sel)) := xl
    show ∃ r, f10_leastToTurn_B (f10_leastToTurn fu) (d_cB X ad B, nx) ad (Int32.ofNat f) (Int32.ofNat l) p3 = _ ∧ _
    unfold f10_leastToTurn_B
    simp only [x_c L, xl', obd, d_i0]
    have mu0 : d_mu p3 0 0 = 0 := by unfold d_mu; split <;> rfl
    cases e : d_law n K F lw u sel with
    | true =>
      rw [if_neg (by simp)]
      exact ⟨_, rfl, Or.inr ⟨0, by omega, ⟨0, 0, d_ps_l e, mu0.symm⟩, rfl, fun v' _ => Nat.zero_le _⟩⟩
    | false =>
      rw [if_pos rfl]
      cases l with
      | zero =>
        rw [if_neg (by decide)]
        refine ⟨_, rfl, Or.inl ⟨rfl, fun v hv => ?_⟩⟩
        obtain ⟨t, c, ⟨-, -, h⟩, -⟩ := hv
        rw [e] at h; cases h
      | succ l =>
        rw [if_pos (by rw [Int32.lt_iff_toInt_lt, d_tn (by omega), d_z0]; omega)]
        let D : Nat → Nat → Prop := fun k v => ∃ k' t' c', (f ≤ k' ∧ k' < k) ∧ d_px n K F lw u l (k' + 1) (d_sx sel (tL k') (tG k')) t' c' ∧ v = d_mu p3 (t' + 1) (d_cst K F u (tL k') (tG k') + c')
        have key : ∃ r, iter (f10_leastToTurn_L23 (f10_leastToTurn fu) ad (Int32.ofNat (l + 1)) p3) FU ((Int8.ofInt (-4)).toInt32, Int32.ofNat f, (d_cB X ad B, nx)) = some r ∧ (∃ q, r = (q, ((d_cB X ad B, nx) : HM)) ∧ d_ls (D (n * (n - 1) / 2)) q) := by
          refine d_it (step := f10_leastToTurn_L23 (f10_leastToTurn fu) ad (Int32.ofNat (l + 1)) p3) (fun k st => ∃ q, st = (q, Int32.ofNat k, ((d_cB X ad B, nx) : HM)) ∧ f ≤ k ∧ d_ls (D k) q) (fun r => ∃ q, r = (q, ((d_cB X ad B, nx) : HM)) ∧ d_ls (D (n * (n - 1) / 2)) q) (n * (n - 1) / 2) ?_ ?_ FU f _ hfm (by unfold FU; omega) ⟨_, rfl, Nat.le_refl _, Or.inl ⟨rfl, fun v hv => by obtain ⟨k', t', c', h1, -⟩ := hv; omega⟩⟩
          · rintro k st hk ⟨q, rfl, hfk, hq⟩
            obtain ⟨n1, n2⟩ := t_n hn hk
            obtain ⟨h1, h2, h3, h4⟩ := t_e n2
            have hb0 : d_b (B (tL k)) (tG k) = u (tL k) (tG k) := by rw [hb _ _ h3 n1, hs k hfk hk, Bool.xor_false]
            have cb : d_cst K F u (tL k) (tG k) ≤ 12 := d_cst_b kf u (by omega) n1
            let κ : Nat := if p3 = 0 then 1 else d_cst K F u (tL k) (tG k)
            have kb : κ ≤ 12 := by
              show (if p3 = 0 then 1 else d_cst K F u (tL k) (tG k)) ≤ 12
              split <;> omega
            have mus : ∀ t c, d_mu p3 (t + 1) (d_cst K F u (tL k) (tG k) + c) = κ + d_mu p3 t c := fun t c => by
              show d_mu p3 (t + 1) (d_cst K F u (tL k) (tG k) + c) = (if p3 = 0 then 1 else d_cst K F u (tL k) (tG k)) + d_mu p3 t c
              unfold d_mu
              split <;> omega
            have Ds : ∀ v, D (k + 1) v ↔ (D k v ∨ ∃ t c, d_px n K F lw u l (k + 1) (d_sx sel (tL k) (tG k)) t c ∧ v = κ + d_mu p3 t c) := fun v => by
              constructor
              · rintro ⟨k', t', c', a1, a2, a3⟩
                by_cases z : k' = k
                · subst z
                  exact Or.inr ⟨t', c', a2, by rw [a3, mus]⟩
                · exact Or.inl ⟨k', t', c', by omega, a2, a3⟩
              · rintro (⟨k', t', c', a1, a2, a3⟩ | ⟨t, c, a2, a3⟩)
                · exact ⟨k', t', c', by omega, a2, a3⟩
                · exact ⟨k, t, c, by omega, a2, by rw [a3, mus]⟩
            -- the recursion
            have T2 := d_TB_fl hn T (show tL k < n by omega) n1 (show tL k ≠ tG k by omega)
            obtain ⟨r2, g1, g2⟩ := x_least L u p3 l fu (k + 1) (d_sx sel (tL k) (tG k)) (d_fl B (tL k) (tG k)) (by omega) (by omega) (by omega) T2 (d_fl_up hn (by omega) n1 h3 hb) (fun k' a1 a2 => by
              obtain ⟨m1, m2⟩ := t_n hn a2
              unfold d_sx
              rw [hs k' (by omega) a2, Bool.false_xor]
              by_cases z : tL k' = tL k
              · have z2 : ¬ tG k' = tG k := fun z2 => by have := t_inj m2 n2 z z2; omega
                rw [decide_eq_false z2]; simp
              · rw [decide_eq_false z]; rfl)
            have K62 : f10_leastToTurn_K62 (f10_leastToTurn fu) (d_cB X ad B, nx) ad (Int32.ofNat (l + 1)) p3 q (Int32.ofNat k) (Int32.ofNat κ) = some (Sum.inl ((if r2 = (Int8.ofInt (-4)).toInt32 then q else if q = (Int8.ofInt (-4)).toInt32 then Int32.ofNat κ + r2 else if q ≤ Int32.ofNat κ + r2 then q else Int32.ofNat κ + r2), Int32.ofNat (k + 1), (d_cB X ad B, nx))) := by
              unfold f10_leastToTurn_K62
              rw [show Int32.ofNat (l + 1) - Int32.ofInt 1 = Int32.ofNat l from (Int32.ofNat_sub (l + 1) 1 (by omega)).symm]
              simp only [x_c L, x_turn L n2, obd, d_su, g1, d_fl_tn B (show tL k ≠ tG k by omega)]
              repeat' split
              all_goals first | rfl | contradiction
            have res : ∃ q2, f10_leastToTurn_K46 (f10_leastToTurn fu) (d_cB X ad B, nx) ad (Int32.ofNat (l + 1)) p3 q (Int32.ofNat k) (Int32.ofNat κ) = some (Sum.inl (q2, Int32.ofNat (k + 1), (d_cB X ad B, nx))) ∧ d_ls (D (k + 1)) q2 := by
              have full : d_ls (D (k + 1)) (if r2 = (Int8.ofInt (-4)).toInt32 then q else if q = (Int8.ofInt (-4)).toInt32 then Int32.ofNat κ + r2 else if q ≤ Int32.ofNat κ + r2 then q else Int32.ofNat κ + r2) := by
                rcases g2 with ⟨a1, a2⟩ | ⟨v2, a1, ⟨t2, c2, a2, a3⟩, a4, a5⟩
                · rw [if_pos a1]
                  refine d_ls_c hq (fun v => ?_)
                  rw [Ds v]
                  constructor
                  · exact Or.inl
                  · rintro (h | ⟨t, c, b1, b2⟩)
                    · exact h
                    · exact absurd ⟨t, c, b1, rfl⟩ (a2 (d_mu p3 t c))
                · have bd := d_px_b hn kf a2
                  have v36 : v2 ≤ 36 := by
                    rw [a3]
                    unfold d_mu
                    split <;> omega
                  rw [a4, if_neg (d_m4 a1), d_ad]
                  refine d_ls_c (d_ls_join hq (show κ + v2 < 1000 by omega) (E := fun v => ∃ t c, d_px n K F lw u l (k + 1) (d_sx sel (tL k) (tG k)) t c ∧ v = κ + d_mu p3 t c) ⟨t2, c2, a2, by rw [a3]⟩ (fun v hv => ?_)) (fun v => (Ds v).symm)
                  obtain ⟨t, c, b1, b2⟩ := hv
                  have := a5 _ ⟨t, c, b1, rfl⟩
                  omega
              unfold f10_leastToTurn_K46
              by_cases z1 : q = (Int8.ofInt (-4)).toInt32
              · rw [if_pos z1]
                exact ⟨_, K62, full⟩
              · rw [if_neg z1]
                by_cases z2 : q ≤ Int32.ofNat κ
                · rw [if_pos z2]
                  refine ⟨q, by rw [d_su], ?_⟩
                  rcases hq with ⟨a1, -⟩ | ⟨v, a1, a2, a3, a4⟩
                  · exact absurd a1 z1
                  · rw [a3, d_le (show v < 2147483648 by omega) (show κ < 2147483648 by omega)] at z2
                    refine Or.inr ⟨v, a1, (Ds v).mpr (Or.inl a2), a3, fun v' hv => ?_⟩
                    rcases (Ds v').mp hv with h | ⟨t, c, -, b2⟩
                    · exact a4 v' h
                    · omega
                · rw [if_neg z2]
                  exact ⟨_, K62, full⟩
            obtain ⟨q2, res1, res2⟩ := res
            refine Or.inl ⟨(q2, Int32.ofNat (k + 1), ((d_cB X ad B, nx) : HM)), ?_, q2, rfl, by omega, res2⟩
            unfold f10_leastToTurn_L23
            simp only [x_c L, x_matches L, obd, d_lef hk (by omega), if_false, x_cost L B u n2 hb0]
            by_cases z : p3 = 0
            · have ek : Int32.ofInt 1 = Int32.ofNat κ := by
                show Int32.ofInt 1 = Int32.ofNat (if p3 = 0 then 1 else d_cst K F u (tL k) (tG k))
                rw [if_pos z]; rfl
              rw [if_pos z, ek]
              exact res1
            · have ek : Int32.ofNat (d_cst K F u (tL k) (tG k)) = Int32.ofNat κ := by
                show _ = Int32.ofNat (if p3 = 0 then 1 else d_cst K F u (tL k) (tG k))
                rw [if_neg z]
              rw [if_neg z, ek]
              exact res1
          · rintro st ⟨q, rfl, hfk, hq⟩
            unfold f10_leastToTurn_L23
            simp only [x_c L, x_matches L, obd, d_let, if_true]
            exact ⟨_, rfl, q, rfl, hq⟩
        obtain ⟨r, k1, q, rfl, k2⟩ := key
        refine ⟨q, by rw [k1], d_ls_c k2 (fun v => ?_)⟩
        constructor
        · rintro ⟨k', t', c', a1, a2, a3⟩
          exact ⟨t' + 1, d_cst K F u (tL k') (tG k') + c', Or.inr ⟨k', t', c', ⟨a1.1, a1.2, rfl⟩, rfl, rfl, a2⟩, a3⟩
        · rintro ⟨t, c, h, hv⟩
          rcases h with ⟨-, -, h⟩ | ⟨k', t', c', ⟨a1, a2, -⟩, rfl, rfl, h⟩
          · rw [e] at h; cases h
          · exact ⟨k', t', c', ⟨a1, a2⟩, h, hv⟩
end LEAST
