/-! PURE: numbers and bits -/
def d_b (x : Int32) (j : Nat) : Bool := x.toBitVec.getLsbD j
def d_i (c : Bool) : Int32 := match c with
  | true => Int32.ofInt 1
  | false => Int32.ofInt 0
theorem d_i0 (c : Bool) : (d_i c = 0) = (c = false) := by cases c <;> decide
theorem d_i1 (c : Bool) : (d_i c = Int32.ofInt 1) = (c = true) := by cases c <;> decide
theorem d_ii (c e : Bool) : (d_i c = d_i e) = (c = e) := by cases c <;> cases e <;> decide
theorem d_isB (c : Bool) : isB (d_i c) = true := by cases c <;> decide
theorem d_bx {x y : Int32} (h : ∀ j, j < 32 → d_b x j = d_b y j) : x = y :=
  Int32.toBitVec_inj.mp (BitVec.eq_of_getLsbD_eq h)
theorem d_bor (x y : Int32) (j : Nat) : d_b (x ||| y) j = (d_b x j || d_b y j) := by simp [d_b]
theorem d_band (x y : Int32) (j : Nat) : d_b (x &&& y) j = (d_b x j && d_b y j) := by simp [d_b]
theorem d_bxor (x y : Int32) (j : Nat) : d_b (x ^^^ y) j = (d_b x j ^^ d_b y j) := by simp [d_b]
theorem d_bz (j : Nat) : d_b (Int32.ofInt 0) j = false := by show (0 : BitVec 32).getLsbD j = false; simp
theorem d_bz0 (j : Nat) : d_b 0 j = false := d_bz j
theorem d_b32 (x : Int32) {j : Nat} (h : 32 ≤ j) : d_b x j = false := BitVec.getLsbD_of_ge _ _ h
theorem d_bm1 {j : Nat} (h : j < 32) : d_b (Int32.ofInt (-1)) j = true :=
  (show ∀ j, j < 32 → d_b (Int32.ofInt (-1)) j = true by decide +kernel) j h
theorem d_bnot (x : Int32) {j : Nat} (h : j < 32) : d_b (x ^^^ Int32.ofInt (-1)) j = !d_b x j := by rw [d_bxor, d_bm1 h]; simp
theorem d_sh {j : Nat} (h : j < 32) : Int32.ofNat j &&& 31 = Int32.ofNat j :=
  (show ∀ j, j < 32 → Int32.ofNat j &&& 31 = Int32.ofNat j by decide +kernel) j h
def d_one (k : Nat) : Int32 := Int32.ofInt 1 <<< Int32.ofNat k
theorem d_one_e {k : Nat} (h : k < 32) : Int32.ofInt 1 <<< (Int32.ofNat k &&& 31) = d_one k := by rw [d_sh h]; rfl
theorem d_bone {k j : Nat} (hk : k < 32) : d_b (d_one k) j = decide (j = k) := by
  by_cases hj : j < 32
  · exact (show ∀ k, k < 32 → ∀ j, j < 32 → d_b (d_one k) j = decide (j = k) by decide +kernel) k hk j hj
  · rw [d_b32 _ (by omega)]; simp; omega
theorem d_smod {k : Nat} (h : k < 32) : ((Int32.ofNat k).toBitVec.smod 32).toNat = k :=
  (show ∀ k, k < 32 → ((Int32.ofNat k).toBitVec.smod 32).toNat = k by decide +kernel) k h
theorem d_bsr (x : Int32) {k j : Nat} (hk : k < 32) (h : j + k < 32) : d_b (x >>> (Int32.ofNat k &&& 31)) j = d_b x (j + k) := by
  rw [d_sh hk]
  unfold d_b
  rw [Int32.toBitVec_shiftRight, BitVec.sshiftRight', d_smod hk, BitVec.getLsbD_sshiftRight]
  simp only [Nat.add_comm k j, h, if_true]
  simp; omega
theorem d_band1 (x : Int32) : x &&& Int32.ofInt 1 = d_i (d_b x 0) := by
  apply d_bx
  intro j hj
  rw [d_band, show d_b (Int32.ofInt 1) j = decide (j = 0) from (show ∀ j, j < 32 → d_b (Int32.ofInt 1) j = decide (j = 0) by decide +kernel) j hj]
  cases h : d_b x 0 with
  | true =>
    show _ = d_b (Int32.ofInt 1) j
    rw [show d_b (Int32.ofInt 1) j = decide (j = 0) from (show ∀ j, j < 32 → d_b (Int32.ofInt 1) j = decide (j = 0) by decide +kernel) j hj]
    by_cases h0 : j = 0
    · subst h0; rw [h]; rfl
    · simp [h0]
  | false =>
    show _ = d_b (Int32.ofInt 0) j
    rw [d_bz]
    by_cases h0 : j = 0
    · subst h0; rw [h]; rfl
    · simp [h0]
theorem d_bit (x : Int32) {k : Nat} (hk : k < 32) : (x >>> (Int32.ofNat k &&& 31)) &&& Int32.ofInt 1 = d_i (d_b x k) := by
  rw [d_band1, d_bsr x hk (by omega), Nat.zero_add]
theorem d_tn {i : Nat} (h : i < 2147483648) : (Int32.ofNat i).toInt = i := Int32.toInt_ofNat_of_lt h
theorem d_nn {i : Nat} (h : i < 2147483648) : (Int32.ofNat i).toNatClampNeg = i := by
  show (Int32.ofNat i).toInt.toNat = i
  rw [d_tn h]; rfl
theorem d_le {i j : Nat} (hi : i < 2147483648) (hj : j < 2147483648) : (Int32.ofNat i ≤ Int32.ofNat j) = (i ≤ j) := by
  rw [Int32.le_iff_toInt_le, d_tn hi, d_tn hj]; simp
theorem d_lt {i j : Nat} (hi : i < 2147483648) (hj : j < 2147483648) : (Int32.ofNat i < Int32.ofNat j) = (i < j) := by
  rw [Int32.lt_iff_toInt_lt, d_tn hi, d_tn hj]; simp
theorem d_eq {i j : Nat} (hi : i < 2147483648) (hj : j < 2147483648) : (Int32.ofNat i = Int32.ofNat j) = (i = j) := by
  rw [← Int32.toInt_inj, d_tn hi, d_tn hj]
  apply propext
  constructor <;> intro h <;> omega
theorem d_su (i : Nat) : Int32.ofNat i + Int32.ofInt 1 = Int32.ofNat (i + 1) := by
  rw [Int32.ofNat_add]; rfl
theorem d_inb {i m : Nat} (h : i < m) (hm : m ≤ 1000) : inb (Int32.ofNat i) m = true := by
  unfold inb
  rw [d_tn (by omega)]
  simp; omega
/-! loops -/
theorem d_it {V R : Type} {step : V → Option (V ⊕ R)} (P : Nat → V → Prop) (Q : R → Prop) (m : Nat) (hb : ∀ k w, k < m → P k w → (∃ w', step w = some (.inl w') ∧ P (k + 1) w') ∨ (∃ r, step w = some (.inr r) ∧ Q r)) (he : ∀ w, P m w → ∃ r, step w = some (.inr r) ∧ Q r) : ∀ fu k w, k ≤ m → m - k < fu → P k w → ∃ r, iter step fu w = some r ∧ Q r
  | 0, _, _, _, h, _ => by omega
  | fu + 1, k, w, hk, hf, hP => by
    unfold iter
    by_cases e : k = m
    · subst e
      obtain ⟨r, h1, h2⟩ := he w hP
      exact ⟨r, by rw [h1], h2⟩
    · rcases hb k w (by omega) hP with ⟨w', h1, h2⟩ | ⟨r, h1, h2⟩
      · obtain ⟨r, h3, h4⟩ := d_it P Q m hb he fu (k + 1) w' (by omega) (by omega) h2
        exact ⟨r, by rw [h1]; exact h3, h4⟩
      · exact ⟨r, by rw [h1], h2⟩
/-- a loop that never breaks: told by what it holds at each count -/
theorem d_for {V R : Type} {step : V → Option (V ⊕ R)} (g : Nat → V) (r : R) (m k : Nat) (hk : k ≤ m) (hm : m < 900000) (hb : ∀ i, k ≤ i → i < m → step (g i) = some (.inl (g (i + 1)))) (he : step (g m) = some (.inr r)) : iter step FU (g k) = some r := by
  obtain ⟨r', h1, h2⟩ := d_it (step := step) (fun i w => w = g i ∧ k ≤ i) (fun q => q = r) m (fun i w hi hw => Or.inl ⟨g (i + 1), by rw [hw.1]; exact hb i hw.2 hi, rfl, by omega⟩) (fun w hw => ⟨r, by rw [hw.1]; exact he, rfl⟩) FU k (g k) hk (by unfold FU; omega) ⟨rfl, Nat.le_refl _⟩
  rw [h1, h2]
/-! masks -/
def d_mk : Nat → (Nat → Bool) → Int32
  | 0, _ => Int32.ofInt 0
  | m + 1, f => if f m = true then d_mk m f ||| d_one m else d_mk m f
theorem d_mkb (f : Nat → Bool) : ∀ m, m ≤ 31 → ∀ j, d_b (d_mk m f) j = (decide (j < m) && f j)
  | 0, _, j => by show d_b (Int32.ofInt 0) j = _; rw [d_bz]; simp
  | m + 1, hm, j => by
    show d_b (if f m = true then d_mk m f ||| d_one m else d_mk m f) j = _
    by_cases e : j = m
    · subst e
      cases h : f j with
      | true => rw [if_pos rfl, d_bor, d_bone (by omega)]; simp
      | false => rw [if_neg (by simp), d_mkb f j (by omega)]; simp
    · have hd : decide (j < m + 1) = decide (j < m) := by simp; omega
      split
      · rw [d_bor, d_bone (by omega), d_mkb f m (by omega), hd]; simp [e]
      · rw [d_mkb f m (by omega), hd]
theorem d_mk0 (f : Nat → Bool) {m : Nat} (hm : m ≤ 31) : d_mk m f = 0 ↔ ∀ j, j < m → f j = false := by
  constructor
  · intro h j hj
    have h2 := d_mkb f m hm j
    rw [h, d_bz0] at h2
    simpa [hj] using h2.symm
  · intro h
    apply d_bx
    intro j hj
    rw [d_mkb f m hm, d_bz0]
    by_cases e : j < m
    · simp [h j e]
    · simp [e]
theorem d_mkc {f g : Nat → Bool} {m : Nat} (h : ∀ j, j < m → f j = g j) : d_mk m f = d_mk m g := by
  induction m with
  | zero => rfl
  | succ m ih =>
    show (if f m = true then d_mk m f ||| d_one m else d_mk m f) = (if g m = true then d_mk m g ||| d_one m else d_mk m g)
    rw [ih (fun j hj => h j (by omega)), h m (by omega)]
/-! how many bits: of small numbers -/
def d_pc (x : Int32) : Nat := (d_b x 0).toNat + (d_b x 1).toNat + (d_b x 2).toNat + (d_b x 3).toNat + (d_b x 4).toNat + (d_b x 5).toNat + (d_b x 6).toNat + (d_b x 7).toNat
def d_sm (x : Int32) : Prop := ∀ j, 8 ≤ j → d_b x j = false
theorem d_sm_n {x : Int32} (h : d_sm x) : ∃ k, k < 256 ∧ x = Int32.ofNat k := by
  refine ⟨x.toBitVec.toNat, ?_, ?_⟩
  · have h2 : x.toBitVec.toNat < 2 ^ 8 := by
      apply Nat.lt_pow_two_of_testBit
      intro i hi
      exact h i hi
    exact h2
  · apply Int32.toBitVec_inj.mp
    show x.toBitVec = BitVec.ofNat 32 x.toBitVec.toNat
    simp
set_option maxRecDepth 100000 in
theorem d_pc_x : (List.range 256).all (fun k => decide (fJ6_bitCount_0f7a4 (Int32.ofNat k) = some (Int32.ofNat (d_pc (Int32.ofNat k))))) = true := by decide +kernel
set_option maxRecDepth 100000 in
theorem d_pc_m : (List.range 256).all (fun k => decide (f11_bits (Int32.ofNat k) = some (Int32.ofNat (d_pc (Int32.ofNat k))))) = true := by decide +kernel
theorem d_pcx {x : Int32} (h : d_sm x) : fJ6_bitCount_0f7a4 x = some (Int32.ofNat (d_pc x)) := by
  obtain ⟨k, hk, rfl⟩ := d_sm_n h
  exact of_decide_eq_true (List.all_eq_true.mp d_pc_x k (List.mem_range.mpr hk))
theorem d_pcm {x : Int32} (h : d_sm x) : f11_bits x = some (Int32.ofNat (d_pc x)) := by
  obtain ⟨k, hk, rfl⟩ := d_sm_n h
  exact of_decide_eq_true (List.all_eq_true.mp d_pc_m k (List.mem_range.mpr hk))
theorem d_pc8 (x : Int32) : d_pc x ≤ 8 := by
  have h : ∀ c : Bool, c.toNat ≤ 1 := by decide
  unfold d_pc
  have := h (d_b x 0); have := h (d_b x 1); have := h (d_b x 2); have := h (d_b x 3)
  have := h (d_b x 4); have := h (d_b x 5); have := h (d_b x 6); have := h (d_b x 7)
  omega
