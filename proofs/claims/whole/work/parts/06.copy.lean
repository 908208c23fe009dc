/-! System.arraycopy over the map (after the kit's va_copyi, va_copyq) -/
theorem cp_nn (z : Int32) (hz0 : 0 ≤ z.toInt) : z.toInt = (z.toNatClampNeg : Int) := by
  show z.toInt = ((z.toInt.toNat : Nat) : Int)
  omega
theorem cp_n0 (z : Int32) (hz0 : 0 ≤ z.toInt) : ¬ z < 0 := by
  intro h
  have := Int32.lt_iff_toInt_lt.mp h
  simp at this
  omega
def CC (own : String) (idx : Nat) : Prop := Cond.methodLink own idx arraycopyName ∈ WT ∧ Cond.native arraycopyName ∈ WT ∧ Cond.static arraycopyName ∈ WT ∧ Cond.initialized "java/lang/System" ∈ WT
section JCOPY
variable {Γ : JC} {κ : KP} {cc : ByteArray} {own : String} {nL : Nat} {ret : Option FieldType} {A : Nat → Prop} {σ σ' : HM} {k n pc idx a a0 : Nat} {lv : List (Nat × Value)} {rest : List Value} {sp dp m : Int32}
theorem hcpi_at (h : hcpi σ a0 sp a dp m = some σ') : ∃ x y, σ.1 a0 = some (.inr (.inl x)) ∧ σ.1 a = some (.inr (.inl y)) ∧ 0 ≤ sp.toInt ∧ 0 ≤ dp.toInt ∧ 0 ≤ m.toInt ∧ sp.toNatClampNeg + m.toNatClampNeg ≤ x.1 ∧ dp.toNatClampNeg + m.toNatClampNeg ≤ y.1 ∧ σ' = hset σ a (.inr (.inl (y.1, va_cpy x.2 y.2 sp.toNatClampNeg dp.toNatClampNeg m.toNatClampNeg))) := by
  unfold hcpi at h
  split at h
  · rename_i x y hx hy
    split at h
    · rename_i hc
      simp only [Bool.and_eq_true, decide_eq_true_eq] at hc
      obtain ⟨⟨⟨⟨h1, h2⟩, h3⟩, h4⟩, h5⟩ := hc
      exact ⟨x, y, hia_at hx, hia_at hy, h1, h2, h3, h4, h5, (Option.some.inj h).symm⟩
    · cases h
  · cases h
theorem hcpr_at (h : hcpr σ a0 sp a dp m = some σ') : ∃ x y, σ.1 a0 = some (.inr (.inr x)) ∧ σ.1 a = some (.inr (.inr y)) ∧ 0 ≤ sp.toInt ∧ 0 ≤ dp.toInt ∧ 0 ≤ m.toInt ∧ sp.toNatClampNeg + m.toNatClampNeg ≤ x.2.1 ∧ dp.toNatClampNeg + m.toNatClampNeg ≤ y.2.1 ∧ (∀ i, i < m.toNatClampNeg → hok σ y.1 (x.2.2 (sp.toNatClampNeg + i)) = true) ∧ σ' = hset σ a (.inr (.inr (y.1, y.2.1, va_cpy x.2.2 y.2.2 sp.toNatClampNeg dp.toNatClampNeg m.toNatClampNeg))) := by
  unfold hcpr at h
  split at h
  · rename_i x y hx hy
    split at h
    · rename_i hc
      simp only [Bool.and_eq_true, decide_eq_true_eq, List.all_eq_true, List.mem_range] at hc
      obtain ⟨⟨⟨⟨⟨h1, h2⟩, h3⟩, h4⟩, h5⟩, h6⟩ := hc
      exact ⟨x, y, hra_at hx, hra_at hy, h1, h2, h3, h4, h5, h6, (Option.some.inj h).symm⟩
    · cases h
  · cases h
set_option maxHeartbeats 1000000 in
theorem j_cpi (E : JE Γ κ cc own nL ret) (w : CC own idx) (hd : decode cc pc = .ok (.invokestatic idx, 3)) (hv : hcpi σ a0 sp a dp m = some σ') (hAA : ∀ q, A q → jA Γ q) (hfr : 1 ≤ (jR Γ).frames) (hlo : (rest.map fun v => v.category).sum + (nativeFrameWords "java/lang/System" "arraycopy" 5 + 11) ≤ (jR Γ).locals) (kk : J Γ nL (HS κ A σ') k n (pc + 3) lv rest) : J Γ nL (HS κ A σ) k n pc lv (.int m :: .int dp :: .ref a :: .int sp :: .ref a0 :: rest) := by
  obtain ⟨⟨n0, f⟩, ⟨n1, g⟩, x1, x2, s1, s2, s3, h4, h5, rfl⟩ := hcpi_at hv
  intro H locs ls hH hS hl T hT X
  have hK := E.2.2.2.2.2.2.2.1.1
  have ok := E.2.2.2.2.1
  have hc0 : H[a0]? = some (vp_cell (kI κ) (n0, .inl f)) := (hH.2 a0 _ x1).2
  have hc1 : H[a]? = some (vp_cell (kI κ) (n1, .inl g)) := (hH.2 a _ x2).2
  obtain ⟨-, k0, hk0, cm0, hkk0⟩ := (hK.2 0 _ rfl).1 n0 (fun j => .int (f j))
  obtain ⟨-, k1, hk1, cm1, hkk1⟩ := (hK.2 0 _ rfl).1 n1 (fun j => .int (g j))
  obtain ⟨vm', X', step⟩ := X.arraycopy E.1 E.2.2.2.1 (ok _ w.1) (ok _ w.2.1) (ok _ w.2.2.1) (ok _ w.2.2.2) (src := a0) (dst := a) (cs := vp_cell (kI κ) (n0, .inl f)) (cd := vp_cell (kI κ) (n1, .inl g)) (srcPos := sp) (destPos := dp) (n := m) (by rw [hT]; exact hc0) (by rw [hT]; exact hc1)
    (fun _ h => by cases h) (fun _ h => by cases h) (fun h => by cases h) (fun h => by cases h) hk0 hk1 hkk0 hkk1 (by rfl) (cp_n0 sp s1) (cp_n0 dp s2) (cp_n0 m s3)
    (by rw [cp_nn sp s1, cp_nn m s3]; show ¬ _ > ((arrV (kI κ) n0 (fun j => .int (f j))).slots.size : Int); rw [arrV_size]; simp only at h4; omega)
    (by rw [cp_nn dp s2, cp_nn m s3]; show ¬ _ > ((arrV (kI κ) n1 (fun j => .int (g j))).slots.size : Int); rw [arrV_size]; simp only at h5; omega)
    (fun vm₁ _ i hi => by
      have e : (vp_cell (kI κ) (n0, .inl f)).slots.getD (sp.toNatClampNeg + i) .null = .int (f (sp.toNatClampNeg + i)) := by
        show (arrV (kI κ) n0 (fun j => .int (f j))).slots.getD _ _ = _
        rw [Array.getD_eq_getD_getElem?, arrV_read _ _ (by simp only at h4; omega)]
        rfl
      refine ⟨?_, ?_⟩
      · rw [e]; rfl
      · rw [e]; exact trivial)
    (g := F0 (jM Γ) pc ls (.int m :: .int dp :: .ref a :: .int sp :: .ref a0 :: rest)) rfl (by rw [E.2.2.1]; exact hl.1) (rest := rest) rfl (by rw [E.2.1]; exact hd) hfr (by show 2 * 0 + _ + _ ≤ _; omega)
  have e1 : copied (vp_cell (kI κ) (n0, .inl f)) (vp_cell (kI κ) (n1, .inl g)) sp dp m = vp_cell (kI κ) (n1, .inl (va_cpy f g sp.toNatClampNeg dp.toNatClampNeg m.toNatClampNeg)) := va_copied (fun z => .int z) (kI κ) (kI κ) f g h4
  rw [e1] at X' step
  have hla : a < H.size := (Array.getElem?_eq_some_iff.mp hc1).1
  have hheap : ((T.setVm vm').setCell a (vp_cell (kI κ) (n1, .inl (va_cpy f g sp.toNatClampNeg dp.toNatClampNeg m.toNatClampNeg)))).heap = H.setIfInBounds a (vp_cell (kI κ) (n1, .inl (va_cpy f g sp.toNatClampNeg dp.toNatClampNeg m.toNatClampNeg))) := by rw [← hT]; rfl
  have oq : ∀ q : Nat, q ≠ a → (H.setIfInBounds a (vp_cell (kI κ) (n1, .inl (va_cpy f g sp.toNatClampNeg dp.toNatClampNeg m.toNatClampNeg))))[q]? = H[q]? := fun q hq => by simp [Array.getElem?_setIfInBounds, Ne.symm hq]
  have hAa : jA Γ a := hAA a (hH.2 a _ x2).1
  obtain ⟨t, a1, b1⟩ := kk _ _ ls (hH.put x2 (show (H.setIfInBounds a _)[a]? = some _ by simp [Array.getElem?_setIfInBounds, hla]) (by simp) oq) ⟨by simp; exact hS.1, fun q g1 g2 => by
      rw [oq q (fun e => g2 (by rw [e]; exact hAa))]
      exact hS.2.1 q g1 g2, fun q hq => by
      rcases List.mem_append.mp hq with h | h
      · exact hS.2.2 q h
      · obtain ⟨z, -, hz⟩ := List.mem_map.mp h
        rw [← hz]
        exact hAa⟩ hl _ hheap X'
  exact ⟨t, step t a1, b1⟩
theorem hok_at {b : Bool} {r : Option Nat} (h : hok σ b r = true) : ∀ y, r = some y → ∃ c fs, σ.1 y = some (.inl (c, fs)) ∧ c ∈ rS b := by
  intro y hy
  subst hy
  unfold hok at h
  simp only at h
  split at h
  · rename_i c hc
    obtain ⟨fs, hfs⟩ := hcls_at hc
    exact ⟨c, fs, hfs, by simpa using h⟩
  · cases h
set_option maxHeartbeats 1000000 in
theorem j_cpr (E : JE Γ κ cc own nL ret) (hRA : ∀ b, RA b) (w : CC own idx) (hd : decode cc pc = .ok (.invokestatic idx, 3)) (hv : hcpr σ a0 sp a dp m = some σ') (hAA : ∀ q, A q → jA Γ q) (hfr : 1 ≤ (jR Γ).frames) (hlo : (rest.map fun v => v.category).sum + (nativeFrameWords "java/lang/System" "arraycopy" 5 + 11) ≤ (jR Γ).locals) (kk : J Γ nL (HS κ A σ') k n (pc + 3) lv rest) : J Γ nL (HS κ A σ) k n pc lv (.int m :: .int dp :: .ref a :: .int sp :: .ref a0 :: rest) := by
  obtain ⟨⟨b0, n0, f⟩, ⟨b, n1, g⟩, x1, x2, s1, s2, s3, h4, h5, h6, rfl⟩ := hcpr_at hv
  intro H locs ls hH hS hl T hT X
  have hK := E.2.2.2.2.2.2.2.1.1
  have ok := E.2.2.2.2.1
  have hc0 : H[a0]? = some (vp_cell (kB κ b0) (n0, .inr (.inr (.inr (.inr f))))) := (hH.2 a0 _ x1).2
  have hc1 : H[a]? = some (vp_cell (kB κ b) (n1, .inr (.inr (.inr (.inr g))))) := (hH.2 a _ x2).2
  have ht1 := kT_at κ b
  obtain ⟨-, k0, hk0, cm0, hkk0⟩ := (hK.2 _ _ (kT_at κ b0)).1 n0 (fun j => va_rf (f j))
  obtain ⟨-, k1, hk1, cm1, hkk1⟩ := (hK.2 _ _ ht1).1 n1 (fun j => va_rf (g j))
  obtain ⟨vm', X', step⟩ := X.arraycopy E.1 E.2.2.2.1 (ok _ w.1) (ok _ w.2.1) (ok _ w.2.2.1) (ok _ w.2.2.2) (src := a0) (dst := a) (cs := vp_cell (kB κ b0) (n0, .inr (.inr (.inr (.inr f))))) (cd := vp_cell (kB κ b) (n1, .inr (.inr (.inr (.inr g))))) (srcPos := sp) (destPos := dp) (n := m) (by rw [hT]; exact hc0) (by rw [hT]; exact hc1)
    (fun _ h => by cases h) (fun _ h => by cases h) (fun h => by cases h) (fun h => by cases h) hk0 hk1 hkk0 hkk1 rfl (cp_n0 sp s1) (cp_n0 dp s2) (cp_n0 m s3)
    (by rw [cp_nn sp s1, cp_nn m s3]; show ¬ _ > ((arrV (kB κ b0) n0 (fun j => va_rf (f j))).slots.size : Int); rw [arrV_size]; simp only at h4; omega)
    (by rw [cp_nn dp s2, cp_nn m s3]; show ¬ _ > ((arrV (kB κ b) n1 (fun j => va_rf (g j))).slots.size : Int); rw [arrV_size]; simp only at h5; omega)
    (fun vm₁ hal i hi => by
      have e : (vp_cell (kB κ b0) (n0, .inr (.inr (.inr (.inr f))))).slots.getD (sp.toNatClampNeg + i) .null = va_rf (f (sp.toNatClampNeg + i)) := by
        show (arrV (kB κ b0) n0 (fun j => va_rf (f j))).slots.getD _ _ = _
        rw [Array.getD_eq_getD_getElem?, arrV_read _ _ (by simp only at h4; omega)]
        rfl
      rw [e]
      cases hy : f (sp.toNatClampNeg + i) with
      | none => exact ⟨rfl, trivial⟩
      | some y =>
        obtain ⟨c, fs, hyc, hcS⟩ := hok_at (h6 i hi) y hy
        obtain ⟨kA, comp, r1, r2, r3, -⟩ := (hK.2 _ _ ht1).2
        cases hk1.symm.trans r1
        cases hkk1.symm.trans r2
        obtain ⟨q, hq, hqc, ⟨kC, hkC⟩, hasg⟩ := j_assign E (hRA b) hcS r3
        obtain ⟨r', hr', cellV, g1, g2, g3, -⟩ := (hH.2 y _ hyc).2
        obtain ⟨kE, hkE, -⟩ := Vm.findClass_spec r3
        obtain ⟨kC', hkC', -⟩ := hal.2.2 _ _ hkC
        obtain ⟨kE', hkE', -⟩ := hal.2.2 _ _ hkE
        refine ⟨rfl, cellV, (show T.heap[y]? = some cellV by rw [hT]; exact g1), (fun q h => by rw [h] at g3; cases g3), ⟨kC', by rw [g2]; exact hkC'⟩, ?_, ?_⟩
        · exact ⟨kE', hkE'⟩
        · show vm₁.assignable _ _ = true
          rw [hal.assignable, g2]
          exact hasg)
    (g := F0 (jM Γ) pc ls (.int m :: .int dp :: .ref a :: .int sp :: .ref a0 :: rest)) rfl (by rw [E.2.2.1]; exact hl.1) (rest := rest) rfl (by rw [E.2.1]; exact hd) hfr (by show 2 * 0 + _ + _ ≤ _; omega)
  have e1 : copied (vp_cell (kB κ b0) (n0, .inr (.inr (.inr (.inr f))))) (vp_cell (kB κ b) (n1, .inr (.inr (.inr (.inr g))))) sp dp m = vp_cell (kB κ b) (n1, .inr (.inr (.inr (.inr (va_cpy f g sp.toNatClampNeg dp.toNatClampNeg m.toNatClampNeg))))) := by
    rw [vp_cell_q, vp_cell_q, vp_cell_q]
    exact va_copied (fun z => va_rf z) _ _ f g h4
  rw [e1] at X' step
  have hla : a < H.size := (Array.getElem?_eq_some_iff.mp hc1).1
  have hheap : ((T.setVm vm').setCell a (vp_cell (kB κ b) (n1, .inr (.inr (.inr (.inr (va_cpy f g sp.toNatClampNeg dp.toNatClampNeg m.toNatClampNeg))))))).heap = H.setIfInBounds a (vp_cell (kB κ b) (n1, .inr (.inr (.inr (.inr (va_cpy f g sp.toNatClampNeg dp.toNatClampNeg m.toNatClampNeg)))))) := by rw [← hT]; rfl
  have oq : ∀ q : Nat, q ≠ a → (H.setIfInBounds a (vp_cell (kB κ b) (n1, .inr (.inr (.inr (.inr (va_cpy f g sp.toNatClampNeg dp.toNatClampNeg m.toNatClampNeg)))))))[q]? = H[q]? := fun q hq => by simp [Array.getElem?_setIfInBounds, Ne.symm hq]
  have hAa : jA Γ a := hAA a (hH.2 a _ x2).1
  obtain ⟨t, a1, b1⟩ := kk _ _ ls (hH.put x2 (show (H.setIfInBounds a _)[a]? = some _ by simp [Array.getElem?_setIfInBounds, hla]) (by simp) oq) ⟨by simp; exact hS.1, fun q g1 g2 => by
      rw [oq q (fun e => g2 (by rw [e]; exact hAa))]
      exact hS.2.1 q g1 g2, fun q hq => by
      rcases List.mem_append.mp hq with h | h
      · exact hS.2.2 q h
      · obtain ⟨z, -, hz⟩ := List.mem_map.mp h
        rw [← hz]
        exact hAa⟩ hl _ hheap X'
  exact ⟨t, step t a1, b1⟩
end JCOPY
