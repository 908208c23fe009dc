/-! PURE: people; the league's league object; the model's rows -/
def d_kc (k : Nat) : Nat := match k with
  | 0 => 6
  | 1 => 4
  | 2 => 5
  | 3 => 1
  | 4 => 9
  | 5 => 3
  | 6 => 7
  | _ => 0
def d_skill (k f : Nat) : Nat := match k with
  | 1 => 2 * (f + 1)
  | 3 => f + 4
  | 4 => 2 * f + 1
  | 5 => 1
  | 6 => f + 4
  | 7 => f + 10
  | _ => f + 1
def d_price (k f : Nat) : Nat := match k with
  | 1 => 3 + f
  | 2 => 1
  | 3 => 6
  | 4 => 2 + f
  | 5 => f + 1
  | 6 => 11
  | 7 => 12
  | _ => 3
def d_cnt (k f w : Nat) : Bool := match k with
  | 1 => decide (w ≤ f)
  | 4 => decide (w ≤ f) || decide (w % 2 = 1)
  | 5 => decide (f ≤ w)
  | 6 => false
  | _ => true
def d_PE (X : Nat → Option HO) (q k f : Nat) : Prop := X q = some (.inl (d_kc k, [.int (Int32.ofNat f)])) ∧ k < 8 ∧ f < 10
theorem d_hfld {σ : HM} {a c k : Nat} {fs : List Value} {S : List Nat} (h : σ.1 a = some (.inl (c, fs))) (hc : S.contains c = true) : hfld σ S k a = fs[k]? := by
  unfold hfld hobj
  rw [h]
  simp only [hc, if_true]
theorem d_hcls {σ : HM} {a c : Nat} {fs : List Value} (h : σ.1 a = some (.inl (c, fs))) : hcls σ a = some c := by
  unfold hcls hobj
  rw [h]; rfl
theorem d_ocl {α : Type} {σ : HM} {a c : Nat} (h : hcls σ a = some c) (x : Option α) : ocl σ a c x = x := if_pos h
theorem d_hfi {σ : HM} {a c k : Nat} {fs : List Value} {S : List Nat} {i : Int32} (h : σ.1 a = some (.inl (c, fs))) (hc : S.contains c = true) (hk : fs[k]? = some (.int i)) : hfi σ S k a = some i := by
  unfold hfi
  rw [d_hfld h hc, hk]
theorem d_kc_P {k : Nat} (h : k < 8) : sP.contains (d_kc k) = true :=
  (show ∀ k, k < 8 → sP.contains (d_kc k) = true by decide) k h
theorem d_kcases {k : Nat} (h : k < 8) : k = 0 ∨ k = 1 ∨ k = 2 ∨ k = 3 ∨ k = 4 ∨ k = 5 ∨ k = 6 ∨ k = 7 := by omega
section PEOPLE
variable {X : Nat → Option HO} {q k f nx : Nat}
theorem d_pe_c (h : d_PE X q k f) : hcls (X, nx) q = some (d_kc k) := d_hcls (σ := (X, nx)) h.1
theorem d_pe_f (h : d_PE X q k f) : hfi (X, nx) sP 0 q = some (Int32.ofNat f) := d_hfi (σ := (X, nx)) h.1 (d_kc_P h.2.1) rfl
theorem d_vkind (h : d_PE X q k f) : v_kind (X, nx) q = some (Int32.ofNat k) := by
  have hc := d_pe_c (nx := nx) h
  obtain ⟨-, hk, hf⟩ := h
  generalize ((X, nx) : HM) = s at hc ⊢
  rcases d_kcases hk with rfl | rfl | rfl | rfl | rfl | rfl | rfl | rfl <;> (simp only [d_kc] at hc; simp only [v_kind, hc]; rfl)
theorem d_vskill (h : d_PE X q k f) : v_skill (X, nx) q = some (Int32.ofNat (d_skill k f)) := by
  have hc := d_pe_c (nx := nx) h
  have hi := d_pe_f (nx := nx) h
  obtain ⟨-, hk, hf⟩ := h
  generalize ((X, nx) : HM) = s at hc hi ⊢
  rcases d_kcases hk with rfl | rfl | rfl | rfl | rfl | rfl | rfl | rfl <;> (simp only [d_kc] at hc; simp only [v_skill, f0_skill, f1_skill, f3_skill, f4_skill, f6_skill, f9_skill, hc, hi, obd, show Nat.blt 0 12 = true from rfl, show Nat.blt 1 12 = true from rfl, show Nat.blt 3 12 = true from rfl, show Nat.blt 4 12 = true from rfl, show Nat.blt 5 12 = true from rfl, show Nat.blt 6 12 = true from rfl, show Nat.blt 7 12 = true from rfl, show Nat.blt 9 12 = true from rfl, ogd]; clear hc hi; revert f; decide)
theorem d_vcost (h : d_PE X q k f) : v_cost (X, nx) q = some (Int32.ofNat (d_price k f)) := by
  have hc := d_pe_c (nx := nx) h
  have hi := d_pe_f (nx := nx) h
  obtain ⟨-, hk, hf⟩ := h
  generalize ((X, nx) : HM) = s at hc hi ⊢
  rcases d_kcases hk with rfl | rfl | rfl | rfl | rfl | rfl | rfl | rfl <;> (simp only [d_kc] at hc; simp only [v_cost, f0_cost, f1_cost, f3_cost, f4_cost, f5_cost, f6_cost, f7_cost, f9_cost, hc, hi, obd, show Nat.blt 0 12 = true from rfl, show Nat.blt 1 12 = true from rfl, show Nat.blt 3 12 = true from rfl, show Nat.blt 4 12 = true from rfl, show Nat.blt 5 12 = true from rfl, show Nat.blt 6 12 = true from rfl, show Nat.blt 7 12 = true from rfl, show Nat.blt 9 12 = true from rfl, ogd]; clear hc hi; revert f; decide)
theorem d_vcnt (h : d_PE X q k f) {w : Nat} (hw : w ≤ 8) : v_countsWith (X, nx) q (Int32.ofNat w) = some (d_i (d_cnt k f w)) := by
  have hc := d_pe_c (nx := nx) h
  have hi := d_pe_f (nx := nx) h
  obtain ⟨-, hk, hf⟩ := h
  generalize ((X, nx) : HM) = s at hc hi ⊢
  have hw' : w < 9 := by omega
  clear hw
  rcases d_kcases hk with rfl | rfl | rfl | rfl | rfl | rfl | rfl | rfl <;> (simp only [d_kc] at hc; simp only [v_countsWith, f3_countsWith, f4_countsWith, f6_countsWith, f7_countsWith, f9_countsWith, hc, hi, obd, show Nat.blt 0 12 = true from rfl, show Nat.blt 1 12 = true from rfl, show Nat.blt 3 12 = true from rfl, show Nat.blt 4 12 = true from rfl, show Nat.blt 5 12 = true from rfl, show Nat.blt 6 12 = true from rfl, show Nat.blt 7 12 = true from rfl, show Nat.blt 9 12 = true from rfl, ogd]; clear hc hi; revert w; revert f; decide +kernel)
end PEOPLE
theorem d_mskill {k f : Nat} (hk : k < 8) (hf : f < 10) : f11_skillBy (Int32.ofNat k) (Int32.ofNat f) = some (Int32.ofNat (d_skill k f)) :=
  (show ∀ k, k < 8 → ∀ f, f < 10 → f11_skillBy (Int32.ofNat k) (Int32.ofNat f) = some (Int32.ofNat (d_skill k f)) by decide +kernel) k hk f hf
theorem d_mprice {k f : Nat} (hk : k < 8) (hf : f < 10) : f11_priceBy (Int32.ofNat k) (Int32.ofNat f) = some (Int32.ofNat (d_price k f)) :=
  (show ∀ k, k < 8 → ∀ f, f < 10 → f11_priceBy (Int32.ofNat k) (Int32.ofNat f) = some (Int32.ofNat (d_price k f)) by decide +kernel) k hk f hf
/-! arrays of ints -/
abbrev d_A (m : Nat) (f : Nat → Int32) : Option HO := some (.inr (.inl (m, f)))
theorem d_ald {σ : HM} {q m i : Nat} {f : Nat → Int32} (h : σ.1 q = d_A m f) (hi : i < m) (hm : m ≤ 1000) : hald σ q (Int32.ofNat i) = some (f i) := by
  unfold hald hia
  rw [h]
  simp only [d_inb hi hm, if_true, d_nn (show i < 2147483648 by omega)]
theorem d_ast {σ : HM} {q m i : Nat} {f : Nat → Int32} {x : Int32} (h : σ.1 q = d_A m f) (hi : i < m) (hm : m ≤ 1000) : hast σ q (Int32.ofNat i) x = some (hset σ q (.inr (.inl (m, upd f i x)))) := by
  unfold hast hia
  rw [h]
  simp only [d_inb hi hm, if_true, d_nn (show i < 2147483648 by omega)]
/-! the league object -/
def d_cB (X : Nat → Option HO) (ad : Nat) (B : Nat → Int32) : Nat → Option HO := va_up X (ad + 2) (d_A 8 B)
def d_LX (X : Nat → Option HO) (ad : Nat) (P K F : Nat → Nat) (n : Nat) (lw : Int32) : Prop := (X ad = some (.inl (2, [.ref (ad + 1), .ref (ad + 2), .int (Int32.ofNat n), .int lw])) ∧ ∃ PA : Nat → Option Nat, X (ad + 1) = some (.inr (.inr (false, 8, PA))) ∧ ∀ i, i < 8 → PA i = some (P i)) ∧ (∀ i, i < 8 → d_PE X (P i) (K i) (F i) ∧ P i ≠ ad + 2) ∧ n ≤ 8
section LEAGUE
variable {X : Nat → Option HO} {ad n nx : Nat} {P K F : Nat → Nat} {lw : Int32} {B : Nat → Int32}
theorem d_cB_at : d_cB X ad B (ad + 2) = d_A 8 B := va_up_self _ _ _
theorem d_cB_ne {q : Nat} (h : q ≠ ad + 2) : d_cB X ad B q = X q := va_up_ne _ _ h
theorem d_cB_0 : d_cB X ad B ad = X ad := va_up_ne _ _ (by omega)
theorem d_cB_1 : d_cB X ad B (ad + 1) = X (ad + 1) := va_up_ne _ _ (by omega)
theorem d_up_up {α : Type} (f : Nat → α) (q : Nat) (x y : α) : va_up (va_up f q x) q y = va_up f q y := by
  funext j; unfold va_up; split <;> rfl
theorem d_cB_cB (B' : Nat → Int32) : d_cB (d_cB X ad B) ad B' = d_cB X ad B' := d_up_up _ _ _ _
theorem x_f0 (L : d_LX X ad P K F n lw) : hfld (d_cB X ad B, nx) [2] 0 ad = some (.ref (ad + 1)) := by
  rw [d_hfld (σ := (d_cB X ad B, nx)) (d_cB_0.trans L.1.1) rfl]; rfl
theorem x_f1 (L : d_LX X ad P K F n lw) : hfld (d_cB X ad B, nx) [2] 1 ad = some (.ref (ad + 2)) := by
  rw [d_hfld (σ := (d_cB X ad B, nx)) (d_cB_0.trans L.1.1) rfl]; rfl
theorem x_n (L : d_LX X ad P K F n lw) : hfi (d_cB X ad B, nx) [2] 2 ad = some (Int32.ofNat n) := d_hfi (σ := (d_cB X ad B, nx)) (d_cB_0.trans L.1.1) rfl rfl
theorem x_l (L : d_LX X ad P K F n lw) : hfi (d_cB X ad B, nx) [2] 3 ad = some lw := d_hfi (σ := (d_cB X ad B, nx)) (d_cB_0.trans L.1.1) rfl rfl
theorem x_c {α : Type} (L : d_LX X ad P K F n lw) (x : Option α) : ocl (d_cB X ad B, nx) ad 2 x = x := d_ocl (d_hcls (σ := (d_cB X ad B, nx)) (d_cB_0.trans L.1.1)) x
theorem x_ld {i : Nat} (hi : i < 8) : hald (d_cB X ad B, nx) (ad + 2) (Int32.ofNat i) = some (B i) := d_ald (σ := (d_cB X ad B, nx)) d_cB_at hi (by omega)
theorem x_st {i : Nat} {x : Int32} (hi : i < 8) : hast (d_cB X ad B, nx) (ad + 2) (Int32.ofNat i) x = some (d_cB X ad (upd B i x), nx) := by
  rw [d_ast (σ := (d_cB X ad B, nx)) d_cB_at hi (by omega)]
  show some (va_up (d_cB X ad B) (ad + 2) _, nx) = _
  rw [show va_up (d_cB X ad B) (ad + 2) (some (.inr (.inl (8, upd B i x)))) = d_cB X ad (upd B i x) from d_cB_cB _]
theorem x_p (L : d_LX X ad P K F n lw) {i : Nat} (hi : i < 8) : hrld (d_cB X ad B, nx) (ad + 1) (Int32.ofNat i) = some (.ref (P i)) := by
  obtain ⟨⟨-, PA, h1, h2⟩, -⟩ := L
  unfold hrld hra
  simp only [d_cB_1, h1, d_inb hi (show 8 ≤ 1000 by omega), if_true, d_nn (show i < 2147483648 by omega), h2 i hi]
  rfl
theorem x_pe (L : d_LX X ad P K F n lw) {i : Nat} (hi : i < 8) : d_PE (d_cB X ad B) (P i) (K i) (F i) := by
  obtain ⟨⟨h1, h2, h3⟩, h4⟩ := L.2.1 i hi
  exact ⟨(d_cB_ne h4).trans h1, h2, h3⟩
theorem x_hasBeaten (L : d_LX X ad P K F n lw) {i j : Nat} (hi : i < 8) (hj : j < 32) : f2_hasBeaten (d_cB X ad B, nx) ad (Int32.ofNat i) (Int32.ofNat j) = some (d_i (d_b (B i) j)) := by
  unfold f2_hasBeaten
  simp only [x_f1 L, obd, orf, x_ld hi, d_bit _ hj, d_i0]
  cases d_b (B i) j <;> rfl
def d_win (B : Nat → Int32) (i j : Nat) : Nat → Int32 := upd (upd B i (B i ||| d_one j)) j (upd B i (B i ||| d_one j) j &&& (d_one i ^^^ Int32.ofInt (-1)))
theorem x_win (L : d_LX X ad P K F n lw) {i j : Nat} (hi : i < 8) (hj : j < 8) : f2_win (d_cB X ad B, nx) ad (Int32.ofNat i) (Int32.ofNat j) = some (d_cB X ad (d_win B i j), nx) := by
  unfold f2_win
  simp only [x_f1 L, obd, orf, x_ld hi, x_ld hj, x_st hi, x_st hj, d_one_e (show i < 32 by omega), d_one_e (show j < 32 by omega)]
  rfl
end LEAGUE
/-! the model's array s -/
def d_mS (Z : Nat → Option HO) (ma : Nat) (S : Nat → Int32) : Nat → Option HO := va_up Z (ma + 1) (d_A 26 S)
def d_MZ (Z : Nat → Option HO) (ma : Nat) : Prop := ∃ fs, Z ma = some (.inl (11, fs)) ∧ fs[0]? = some (.ref (ma + 1))
section MODEL
variable {Z : Nat → Option HO} {ma nx : Nat} {S : Nat → Int32}
theorem d_mS_at : d_mS Z ma S (ma + 1) = d_A 26 S := va_up_self _ _ _
theorem d_mS_ne {q : Nat} (h : q ≠ ma + 1) : d_mS Z ma S q = Z q := va_up_ne _ _ h
theorem d_mS_0 : d_mS Z ma S ma = Z ma := va_up_ne _ _ (by omega)
theorem d_mS_mS (S' : Nat → Int32) : d_mS (d_mS Z ma S) ma S' = d_mS Z ma S' := d_up_up _ _ _ _
theorem m_f0 (h : d_MZ Z ma) : hfld (d_mS Z ma S, nx) [11] 0 ma = some (.ref (ma + 1)) := by
  obtain ⟨fs, h1, h2⟩ := h
  rw [d_hfld (σ := (d_mS Z ma S, nx)) (d_mS_0.trans h1) rfl, h2]
theorem m_c {α : Type} (h : d_MZ Z ma) (x : Option α) : ocl (d_mS Z ma S, nx) ma 11 x = x := by
  obtain ⟨fs, h1, h2⟩ := h
  exact d_ocl (d_hcls (σ := (d_mS Z ma S, nx)) (d_mS_0.trans h1)) x
theorem m_ld {i : Nat} (hi : i < 26) : hald (d_mS Z ma S, nx) (ma + 1) (Int32.ofNat i) = some (S i) := d_ald (σ := (d_mS Z ma S, nx)) d_mS_at hi (by omega)
theorem m_ld0 : hald (d_mS Z ma S, nx) (ma + 1) (Int32.ofInt 0) = some (S 0) := m_ld (i := 0) (by omega)
theorem m_ld1 : hald (d_mS Z ma S, nx) (ma + 1) (Int32.ofInt 1) = some (S 1) := m_ld (i := 1) (by omega)
theorem m_st {i : Nat} {x : Int32} (hi : i < 26) : hast (d_mS Z ma S, nx) (ma + 1) (Int32.ofNat i) x = some (d_mS Z ma (upd S i x), nx) := by
  rw [d_ast (σ := (d_mS Z ma S, nx)) d_mS_at hi (by omega)]
  show some (va_up (d_mS Z ma S) (ma + 1) _, nx) = _
  rw [show va_up (d_mS Z ma S) (ma + 1) (some (.inr (.inl (26, upd S i x)))) = d_mS Z ma (upd S i x) from d_mS_mS _]
theorem m_st0 {x : Int32} : hast (d_mS Z ma S, nx) (ma + 1) (Int32.ofInt 0) x = some (d_mS Z ma (upd S 0 x), nx) := m_st (i := 0) (by omega)
theorem m_st1 {x : Int32} : hast (d_mS Z ma S, nx) (ma + 1) (Int32.ofInt 1) x = some (d_mS Z ma (upd S 1 x), nx) := m_st (i := 1) (by omega)
theorem d_ix0 (p : Nat) : Int32.ofInt 2 + Int32.ofInt 3 * Int32.ofNat p = Int32.ofNat (2 + 3 * p) := by
  rw [Int32.ofNat_add, Int32.ofNat_mul]; rfl
theorem d_ix1 (p : Nat) : Int32.ofInt 2 + Int32.ofInt 3 * Int32.ofNat p + Int32.ofInt 1 = Int32.ofNat (3 + 3 * p) := by
  rw [d_ix0, d_su]; congr 1; omega
theorem d_ix2 (p : Nat) : Int32.ofInt 2 + Int32.ofInt 3 * Int32.ofNat p + Int32.ofInt 2 = Int32.ofNat (4 + 3 * p) := by
  rw [d_ix0, show Int32.ofInt 2 = Int32.ofNat 2 from rfl, ← Int32.ofNat_add]; congr 1; omega
theorem d_ix00 (p : Nat) : Int32.ofInt 2 + Int32.ofInt 3 * Int32.ofNat p + Int32.ofInt 0 = Int32.ofNat (2 + 3 * p) := by
  rw [d_ix0, show Int32.ofInt 0 = Int32.ofNat 0 from rfl, ← Int32.ofNat_add]; rfl
theorem m_kind (h : d_MZ Z ma) {p : Nat} (hp : p < 8) : f11_kind (d_mS Z ma S, nx) ma (Int32.ofNat p) = some (S (2 + 3 * p)) := by
  unfold f11_kind
  simp only [m_f0 h, obd, orf, d_ix0, m_ld (show 2 + 3 * p < 26 by omega)]
theorem m_figure (h : d_MZ Z ma) {p : Nat} (hp : p < 8) : f11_figure (d_mS Z ma S, nx) ma (Int32.ofNat p) = some (S (3 + 3 * p)) := by
  unfold f11_figure
  simp only [m_f0 h, obd, orf, d_ix1, m_ld (show 3 + 3 * p < 26 by omega)]
theorem m_beaten (h : d_MZ Z ma) {p : Nat} (hp : p < 8) : f11_beaten (d_mS Z ma S, nx) ma (Int32.ofNat p) = some (S (4 + 3 * p)) := by
  unfold f11_beaten
  simp only [m_f0 h, obd, orf, d_ix2, m_ld (show 4 + 3 * p < 26 by omega)]
theorem m_puts0 (h : d_MZ Z ma) {p : Nat} (hp : p < 8) {x : Int32} : f11_puts (d_mS Z ma S, nx) ma (Int32.ofNat p) (Int32.ofInt 0) x = some (d_mS Z ma (upd S (2 + 3 * p) x), nx) := by
  unfold f11_puts
  simp only [m_f0 h, obd, orf, d_ix00, m_st (show 2 + 3 * p < 26 by omega)]
theorem m_puts1 (h : d_MZ Z ma) {p : Nat} (hp : p < 8) {x : Int32} : f11_puts (d_mS Z ma S, nx) ma (Int32.ofNat p) (Int32.ofInt 1) x = some (d_mS Z ma (upd S (3 + 3 * p) x), nx) := by
  unfold f11_puts
  simp only [m_f0 h, obd, orf, d_ix1, m_st (show 3 + 3 * p < 26 by omega)]
theorem m_puts2 (h : d_MZ Z ma) {p : Nat} (hp : p < 8) {x : Int32} : f11_puts (d_mS Z ma S, nx) ma (Int32.ofNat p) (Int32.ofInt 2) x = some (d_mS Z ma (upd S (4 + 3 * p) x), nx) := by
  unfold f11_puts
  simp only [m_f0 h, obd, orf, d_ix2, m_st (show 4 + 3 * p < 26 by omega)]
/-- what s says -/
def d_MS (S : Nat → Int32) (n : Nat) (K F : Nat → Nat) (B : Nat → Int32) (lw : Int32) : Prop := S 0 = Int32.ofNat n ∧ S 1 = lw ∧ ∀ i, i < n → S (2 + 3 * i) = Int32.ofNat (K i) ∧ S (3 + 3 * i) = Int32.ofNat (F i) ∧ S (4 + 3 * i) = B i
theorem d_MS_B {n : Nat} {K F : Nat → Nat} {B : Nat → Int32} {lw : Int32} (h : d_MS S n K F B lw) {j : Nat} (x : Int32) : d_MS (upd S (4 + 3 * j) x) n K F (upd B j x) lw := by
  refine ⟨?_, ?_, fun i hi => ⟨?_, ?_, ?_⟩⟩
  · rw [show upd S (4 + 3 * j) x 0 = S 0 from if_neg (by omega)]; exact h.1
  · rw [show upd S (4 + 3 * j) x 1 = S 1 from if_neg (by omega)]; exact h.2.1
  · rw [show upd S (4 + 3 * j) x (2 + 3 * i) = S (2 + 3 * i) from if_neg (by omega)]; exact (h.2.2 i hi).1
  · rw [show upd S (4 + 3 * j) x (3 + 3 * i) = S (3 + 3 * i) from if_neg (by omega)]; exact (h.2.2 i hi).2.1
  · unfold upd
    by_cases e : i = j
    · subst e; simp
    · rw [if_neg (by omega), if_neg e]; exact (h.2.2 i hi).2.2
theorem m_beats (h : d_MZ Z ma) {n : Nat} {K F : Nat → Nat} {B : Nat → Int32} {lw : Int32} (hS : d_MS S n K F B lw) (hn : n ≤ 8) {i j : Nat} (hi : i < n) (hj : j < n) : ∃ S', f11_beats (d_mS Z ma S, nx) ma (Int32.ofNat i) (Int32.ofNat j) = some (d_mS Z ma S', nx) ∧ d_MS S' n K F (d_win B i j) lw := by
  have h1 := d_MS_B hS (j := i) (B i ||| d_one j)
  have h2 := d_MS_B h1 (j := j) (upd B i (B i ||| d_one j) j &&& (d_one i ^^^ Int32.ofInt (-1)))
  refine ⟨_, ?_, h2⟩
  unfold f11_beats
  simp only [m_c h, m_beaten h (show i < 8 by omega), m_beaten h (show j < 8 by omega), obd, m_puts2 h (show i < 8 by omega), m_puts2 h (show j < 8 by omega), d_one_e (show i < 32 by omega), d_one_e (show j < 32 by omega), (hS.2.2 i hi).2.2, (h1.2.2 j hj).2.2]
end MODEL
