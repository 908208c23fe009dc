/-! PURE: sets of three matches at most -/
def d_sx (sel : Nat → Nat → Bool) (i j : Nat) : Nat → Nat → Bool := fun p q => sel p q ^^ (decide (p = i) && decide (q = j))
theorem d_sx_cm (sel : Nat → Nat → Bool) (i j i' j' : Nat) : d_sx (d_sx sel i j) i' j' = d_sx (d_sx sel i' j') i j := by
  funext p q
  unfold d_sx
  rw [Bool.xor_assoc, Bool.xor_assoc, Bool.xor_comm (decide (p = i) && decide (q = j))]
/-- how many matches, for which price -/
def d_ps (law : (Nat → Nat → Bool) → Bool) (cst : Nat → Nat → Nat) (M : Nat) (va : Nat → Bool) (pa pb : Nat → Nat) : Nat → Nat → (Nat → Nat → Bool) → Nat → Nat → Prop
  | 0 => fun _ sel t c => t = 0 ∧ c = 0 ∧ law sel = true
  | l + 1 => fun f sel t c => (t = 0 ∧ c = 0 ∧ law sel = true) ∨ ∃ k t' c', (f ≤ k ∧ k < M ∧ va k = true) ∧ t = t' + 1 ∧ c = cst (pa k) (pb k) + c' ∧ d_ps law cst M va pa pb l (k + 1) (d_sx sel (pa k) (pb k)) t' c'
section SETS
variable {law : (Nat → Nat → Bool) → Bool} {cst : Nat → Nat → Nat} {M : Nat} {va : Nat → Bool} {pa pb : Nat → Nat}
theorem d_ps_s (l f : Nat) (sel : Nat → Nat → Bool) (t c : Nat) : d_ps law cst M va pa pb (l + 1) f sel t c = ((t = 0 ∧ c = 0 ∧ law sel = true) ∨ ∃ k t' c', (f ≤ k ∧ k < M ∧ va k = true) ∧ t = t' + 1 ∧ c = cst (pa k) (pb k) + c' ∧ d_ps law cst M va pa pb l (k + 1) (d_sx sel (pa k) (pb k)) t' c') := rfl
theorem d_ps_l {l f : Nat} {sel : Nat → Nat → Bool} (h : law sel = true) : d_ps law cst M va pa pb l f sel 0 0 := by
  cases l with
  | zero => exact ⟨rfl, rfl, h⟩
  | succ l => exact Or.inl ⟨rfl, rfl, h⟩
theorem d_ps_1 {l f j c : Nat} {sel : Nat → Nat → Bool} (h : f ≤ j ∧ j < M ∧ va j = true) (hl : law (d_sx sel (pa j) (pb j)) = true) (hc : c = cst (pa j) (pb j)) : d_ps law cst M va pa pb (l + 1) f sel 1 c := by
  rw [d_ps_s]
  exact Or.inr ⟨j, 0, 0, h, rfl, hc, d_ps_l hl⟩
theorem d_ps_2 {l f j1 j2 c : Nat} {sel : Nat → Nat → Bool} (h1 : f ≤ j1 ∧ j1 < M ∧ va j1 = true) (h2 : j1 < j2 ∧ j2 < M ∧ va j2 = true) (hl : law (d_sx (d_sx sel (pa j1) (pb j1)) (pa j2) (pb j2)) = true) (hc : c = cst (pa j1) (pb j1) + cst (pa j2) (pb j2)) : d_ps law cst M va pa pb (l + 1 + 1) f sel 2 c := by
  rw [d_ps_s]
  exact Or.inr ⟨j1, 1, cst (pa j2) (pb j2), h1, rfl, hc, d_ps_1 ⟨by omega, h2.2⟩ hl rfl⟩
theorem d_ps_3 {l f j1 j2 j3 c : Nat} {sel : Nat → Nat → Bool} (h1 : f ≤ j1 ∧ j1 < M ∧ va j1 = true) (h2 : j1 < j2 ∧ j2 < M ∧ va j2 = true) (h3 : j2 < j3 ∧ j3 < M ∧ va j3 = true) (hl : law (d_sx (d_sx (d_sx sel (pa j1) (pb j1)) (pa j2) (pb j2)) (pa j3) (pb j3)) = true) (hc : c = cst (pa j1) (pb j1) + cst (pa j2) (pb j2) + cst (pa j3) (pb j3)) : d_ps law cst M va pa pb (l + 1 + 1 + 1) f sel 3 c := by
  rw [d_ps_s]
  exact Or.inr ⟨j1, 2, cst (pa j2) (pb j2) + cst (pa j3) (pb j3), h1, rfl, by omega, d_ps_2 ⟨by omega, h2.2⟩ h3 hl rfl⟩
theorem d_ps_2u {l j1 j2 c : Nat} {sel : Nat → Nat → Bool} (h1 : j1 < M ∧ va j1 = true) (h2 : j2 < M ∧ va j2 = true) (h : j1 ≠ j2) (hl : law (d_sx (d_sx sel (pa j1) (pb j1)) (pa j2) (pb j2)) = true) (hc : c = cst (pa j1) (pb j1) + cst (pa j2) (pb j2)) : d_ps law cst M va pa pb (l + 1 + 1) 0 sel 2 c := by
  by_cases z : j1 < j2
  · exact d_ps_2 ⟨Nat.zero_le _, h1⟩ ⟨z, h2⟩ hl hc
  · rw [d_sx_cm] at hl
    exact d_ps_2 ⟨Nat.zero_le _, h2⟩ ⟨by omega, h1⟩ hl (by omega)
theorem d_ps_3u {l j1 j2 j3 c : Nat} {sel : Nat → Nat → Bool} (h1 : j1 < M ∧ va j1 = true) (h2 : j2 < M ∧ va j2 = true) (h3 : j3 < M ∧ va j3 = true) (h12 : j1 ≠ j2) (h13 : j1 ≠ j3) (h23 : j2 ≠ j3) (hl : law (d_sx (d_sx (d_sx sel (pa j1) (pb j1)) (pa j2) (pb j2)) (pa j3) (pb j3)) = true) (hc : c = cst (pa j1) (pb j1) + cst (pa j2) (pb j2) + cst (pa j3) (pb j3)) : d_ps law cst M va pa pb (l + 1 + 1 + 1) 0 sel 3 c := by
  by_cases a : j1 < j2
  · by_cases b : j2 < j3
    · exact d_ps_3 ⟨Nat.zero_le _, h1⟩ ⟨a, h2⟩ ⟨b, h3⟩ hl hc
    · by_cases d : j1 < j3
      · rw [d_sx_cm (d_sx sel (pa j1) (pb j1))] at hl
        exact d_ps_3 ⟨Nat.zero_le _, h1⟩ ⟨d, h3⟩ ⟨by omega, h2⟩ hl (by omega)
      · rw [d_sx_cm (d_sx sel (pa j1) (pb j1)), d_sx_cm sel (pa j1)] at hl
        exact d_ps_3 ⟨Nat.zero_le _, h3⟩ ⟨by omega, h1⟩ ⟨a, h2⟩ hl (by omega)
  · by_cases b : j1 < j3
    · rw [d_sx_cm sel (pa j1)] at hl
      exact d_ps_3 ⟨Nat.zero_le _, h2⟩ ⟨by omega, h1⟩ ⟨b, h3⟩ hl (by omega)
    · by_cases d : j2 < j3
      · rw [d_sx_cm sel (pa j1), d_sx_cm (d_sx sel (pa j2) (pb j2)) (pa j1)] at hl
        exact d_ps_3 ⟨Nat.zero_le _, h2⟩ ⟨d, h3⟩ ⟨by omega, h1⟩ hl (by omega)
      · rw [d_sx_cm sel (pa j1), d_sx_cm (d_sx sel (pa j2) (pb j2)) (pa j1), d_sx_cm sel (pa j2)] at hl
        exact d_ps_3 ⟨Nat.zero_le _, h3⟩ ⟨by omega, h2⟩ ⟨by omega, h1⟩ hl (by omega)
/-- the order in which the matches are gone through doesn't matter -/
theorem d_ps_to {M' : Nat} {va' : Nat → Bool} {pa' pb' : Nat → Nat} (inj : ∀ k k', k < M → k' < M → va k = true → va k' = true → pa k = pa k' → pb k = pb k' → k = k') (to : ∀ k, k < M → va k = true → ∃ j, (j < M' ∧ va' j = true) ∧ pa' j = pa k ∧ pb' j = pb k) {sel : Nat → Nat → Bool} {t c : Nat} (h : d_ps law cst M va pa pb 3 0 sel t c) : d_ps law cst M' va' pa' pb' 3 0 sel t c := by
  rcases h with ⟨rfl, rfl, h⟩ | ⟨k1, t1, c1, ⟨-, a1, a2⟩, rfl, rfl, h⟩
  · exact d_ps_l h
  · obtain ⟨j1, b1, e1, e1'⟩ := to k1 a1 a2
    rcases h with ⟨rfl, rfl, h⟩ | ⟨k2, t2, c2, ⟨a3, a4, a5⟩, rfl, rfl, h⟩
    · exact d_ps_1 ⟨Nat.zero_le _, b1⟩ (by rw [e1, e1']; exact h) (by rw [e1, e1']; omega)
    · obtain ⟨j2, b2, e2, e2'⟩ := to k2 a4 a5
      have n12 : j1 ≠ j2 := fun z => by
        have := inj k1 k2 a1 a4 a2 a5 (by rw [← e1, ← e2, z]) (by rw [← e1', ← e2', z])
        omega
      rcases h with ⟨rfl, rfl, h⟩ | ⟨k3, t3, c3, ⟨a6, a7, a8⟩, rfl, rfl, h⟩
      · exact d_ps_2u b1 b2 n12 (by rw [e1, e1', e2, e2']; exact h) (by rw [e1, e1', e2, e2']; omega)
      · obtain ⟨j3, b3, e3, e3'⟩ := to k3 a7 a8
        have n13 : j1 ≠ j3 := fun z => by
          have := inj k1 k3 a1 a7 a2 a8 (by rw [← e1, ← e3, z]) (by rw [← e1', ← e3', z])
          omega
        have n23 : j2 ≠ j3 := fun z => by
          have := inj k2 k3 a4 a7 a5 a8 (by rw [← e2, ← e3, z]) (by rw [← e2', ← e3', z])
          omega
        obtain ⟨rfl, rfl, h⟩ := h
        exact d_ps_3u b1 b2 b3 n12 n13 n23 (by rw [e1, e1', e2, e2', e3, e3']; exact h) (by rw [e1, e1', e2, e2', e3, e3']; omega)
theorem d_ps_b (hc : ∀ k, k < M → va k = true → cst (pa k) (pb k) ≤ 12) : ∀ {l f : Nat} {sel : Nat → Nat → Bool} {t c : Nat}, d_ps law cst M va pa pb l f sel t c → t ≤ l ∧ c ≤ 12 * l
  | 0, f, sel, t, c, h => by
    obtain ⟨rfl, rfl, h⟩ := h
    omega
  | l + 1, f, sel, t, c, h => by
    rcases h with ⟨rfl, rfl, h⟩ | ⟨k, t', c', ⟨-, a1, a2⟩, rfl, rfl, h⟩
    · omega
    · have := d_ps_b hc h
      have := hc k a1 a2
      omega
end SETS
/-! the least of what there is -/
def d_ls (D : Nat → Prop) (r : Int32) : Prop := (r = (Int8.ofInt (-4)).toInt32 ∧ ∀ v, ¬ D v) ∨ ∃ v, v < 1000 ∧ D v ∧ r = Int32.ofNat v ∧ ∀ v', D v' → v ≤ v'
theorem d_ls_u {D D' : Nat → Prop} {r r' : Int32} (h : d_ls D r) (h' : d_ls D' r') (e : ∀ v, D v ↔ D' v) : r = r' := by
  rcases h with ⟨a, b⟩ | ⟨v, a, b, c, d⟩ <;> rcases h' with ⟨a', b'⟩ | ⟨v', a', b', c', d'⟩
  · rw [a, a']
  · exact absurd ((e v').mpr b') (b v')
  · exact absurd ((e v).mp b) (b' v)
  · have h1 := d v' ((e v').mpr b')
    have h2 := d' v ((e v).mp b)
    rw [c, c', show v = v' by omega]
theorem d_ls_c {D D' : Nat → Prop} {r : Int32} (h : d_ls D r) (e : ∀ v, D v ↔ D' v) : d_ls D' r := by
  rcases h with ⟨a, b⟩ | ⟨v, a, b, c, d⟩
  · exact Or.inl ⟨a, fun v q => b v ((e v).mpr q)⟩
  · exact Or.inr ⟨v, a, (e v).mp b, c, fun v' q => d v' ((e v').mpr q)⟩
theorem d_m4 {v : Nat} (h : v < 1000) : ¬ Int32.ofNat v = (Int8.ofInt (-4)).toInt32 := fun q => by
  have := d_n4 h
  rw [this] at q
  exact q
theorem d_ls_neg {D : Nat → Prop} {r : Int32} (h : d_ls D r) : (r < 0) = (r = (Int8.ofInt (-4)).toInt32) := by
  rcases h with ⟨a, b⟩ | ⟨v, a, b, c, d⟩
  · rw [a]; decide
  · rw [c]
    apply propext
    constructor
    · intro q
      rw [Int32.lt_iff_toInt_lt, d_tn (by omega), d_z0] at q
      omega
    · intro q; exact absurd q (d_m4 a)
/-- one value more -/
theorem d_ls_add {D : Nat → Prop} {r : Int32} (h : d_ls D r) {x : Nat} (hx : x < 1000) : d_ls (fun v => D v ∨ v = x) (if r = (Int8.ofInt (-4)).toInt32 then Int32.ofNat x else if r ≤ Int32.ofNat x then r else Int32.ofNat x) := by
  rcases h with ⟨a, b⟩ | ⟨v, a, b, c, d⟩
  · rw [if_pos a]
    exact Or.inr ⟨x, hx, Or.inr rfl, rfl, fun v' q => by
      rcases q with q | q
      · exact absurd q (b v')
      · omega⟩
  · have le := d_le (show v < 2147483648 by omega) (show x < 2147483648 by omega)
    rw [c, if_neg (d_m4 a)]
    by_cases z : v ≤ x
    · rw [if_pos (by rw [le]; exact z)]
      exact Or.inr ⟨v, a, Or.inl b, rfl, fun v' q => by
        rcases q with q | q
        · exact d v' q
        · omega⟩
    · rw [if_neg (by rw [le]; exact z)]
      exact Or.inr ⟨x, hx, Or.inr rfl, rfl, fun v' q => by
        rcases q with q | q
        · have := d v' q; omega
        · omega⟩
theorem d_ls_0 : d_ls (fun _ => False) ((Int8.ofInt (-4)).toInt32) := Or.inl ⟨rfl, fun _ h => h⟩
