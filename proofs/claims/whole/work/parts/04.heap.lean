/-! THE HEAP as one map: rows that read, write, make -/
-- an object (its class's number, its fields), an array of ints, an array of references (of rows: true, of people: false)
abbrev HO : Type := (Nat × List Value) ⊕ ((Nat × (Nat → Int32)) ⊕ (Bool × Nat × (Nat → Option Nat)))
abbrev HM : Type := (Nat → Option HO) × Nat
abbrev kB (κ : KP) (b : Bool) : ClassId := match b with
  | false => kR κ 0
  | true => kR κ 1
abbrev rkB (b : Bool) : String := match b with
  | false => rK0
  | true => rK1
abbrev tkB (b : Bool) : Nat := match b with
  | false => 1
  | true => 2
theorem kT_at (κ : KP) (b : Bool) : (kT κ)[tkB b]? = some (kB κ b, .object (rkB b)) := by cases b <;> rfl
def toE (κ : KP) (o : HO) : va_E := match o with
  | .inl o => .inr o
  | .inr (.inl a) => .inl (kI κ, a.1, .inl a.2)
  | .inr (.inr a) => .inl (kB κ a.1, a.2.1, .inr (.inr (.inr (.inr a.2.2))))
def HS (κ : KP) (A : Nat → Prop) (σ : HM) (H : Heap) : Prop := (H.size = σ.2 ∧ (kF κ = true → ∀ q, σ.2 ≤ q → A q)) ∧ ∀ a o, σ.1 a = some o → A a ∧ va_at (kD κ) vwCl (a, toE κ o) H
def hset (σ : HM) (a : Nat) (o : HO) : HM := (va_up σ.1 a (some o), σ.2)
def hnew (σ : HM) (o : HO) : HM := (va_up σ.1 σ.2 (some o), σ.2 + 1)
def hobj (σ : HM) (a : Nat) : Option (Nat × List Value) := match σ.1 a with
  | some (.inl o) => some o
  | _ => none
def hia (σ : HM) (a : Nat) : Option (Nat × (Nat → Int32)) := match σ.1 a with
  | some (.inr (.inl o)) => some o
  | _ => none
def hra (σ : HM) (a : Nat) : Option (Bool × Nat × (Nat → Option Nat)) := match σ.1 a with
  | some (.inr (.inr o)) => some o
  | _ => none
def hcls (σ : HM) (a : Nat) : Option Nat := (hobj σ a).map (fun o => o.1)
def inb (i : Int32) (n : Nat) : Bool := decide (0 ≤ i.toInt) && decide (i.toInt < n)
def hfld (σ : HM) (S : List Nat) (k a : Nat) : Option Value := match hobj σ a with
  | some o => if S.contains o.1 then o.2[k]? else none
  | none => none
def hfi (σ : HM) (S : List Nat) (k a : Nat) : Option Int32 := match hfld σ S k a with
  | some (.int x) => some x
  | _ => none
def hput (σ : HM) (S : List Nat) (k a : Nat) (v : Value) : Option HM := match hobj σ a with
  | some o => if S.contains o.1 && decide (k < o.2.length) then some (hset σ a (.inl (o.1, o.2.set k v))) else none
  | none => none
def hald (σ : HM) (a : Nat) (i : Int32) : Option Int32 := match hia σ a with
  | some x => if inb i x.1 then some (x.2 i.toNatClampNeg) else none
  | none => none
def hast (σ : HM) (a : Nat) (i v : Int32) : Option HM := match hia σ a with
  | some x => if inb i x.1 then some (hset σ a (.inr (.inl (x.1, upd x.2 i.toNatClampNeg v)))) else none
  | none => none
def hlen (σ : HM) (a : Nat) : Option Int32 := match σ.1 a with
  | some (.inr (.inl x)) => some (Int32.ofNat x.1)
  | some (.inr (.inr x)) => some (Int32.ofNat x.2.1)
  | _ => none
def hrld (σ : HM) (a : Nat) (i : Int32) : Option Value := match hra σ a with
  | some x => if inb i x.2.1 then some (va_rf (x.2.2 i.toNatClampNeg)) else none
  | none => none
def rS (b : Bool) : List Nat := match b with
  | false => [0, 1, 3, 4, 5, 6, 7, 9]
  | true => [8]
def hrst (σ : HM) (a : Nat) (i : Int32) (v : Value) : Option HM := match hra σ a with
  | some x => if inb i x.2.1 then (match v with
    | .null => some (hset σ a (.inr (.inr (x.1, x.2.1, va_up x.2.2 i.toNatClampNeg none))))
    | .ref b => (match hcls σ b with
      | some c => if (rS x.1).contains c then some (hset σ a (.inr (.inr (x.1, x.2.1, va_up x.2.2 i.toNatClampNeg (some b))))) else none
      | none => none)
    | _ => none) else none
  | none => none
def hcpi (σ : HM) (a0 : Nat) (sp : Int32) (a : Nat) (dp n : Int32) : Option HM := match hia σ a0, hia σ a with
  | some x, some y => if decide (0 ≤ sp.toInt) && decide (0 ≤ dp.toInt) && decide (0 ≤ n.toInt) && decide (sp.toNatClampNeg + n.toNatClampNeg ≤ x.1) && decide (dp.toNatClampNeg + n.toNatClampNeg ≤ y.1) then some (hset σ a (.inr (.inl (y.1, va_cpy x.2 y.2 sp.toNatClampNeg dp.toNatClampNeg n.toNatClampNeg)))) else none
  | _, _ => none
def hok (σ : HM) (b : Bool) (r : Option Nat) : Bool := match r with
  | none => true
  | some y => match hcls σ y with
    | some c => (rS b).contains c
    | none => false
def hcpr (σ : HM) (a0 : Nat) (sp : Int32) (a : Nat) (dp n : Int32) : Option HM := match hra σ a0, hra σ a with
  | some x, some y => if decide (0 ≤ sp.toInt) && decide (0 ≤ dp.toInt) && decide (0 ≤ n.toInt) && decide (sp.toNatClampNeg + n.toNatClampNeg ≤ x.2.1) && decide (dp.toNatClampNeg + n.toNatClampNeg ≤ y.2.1) && (List.range n.toNatClampNeg).all (fun i => hok σ y.1 (x.2.2 (sp.toNatClampNeg + i))) then some (hset σ a (.inr (.inr (y.1, y.2.1, va_cpy x.2.2 y.2.2 sp.toNatClampNeg dp.toNatClampNeg n.toNatClampNeg)))) else none
  | _, _ => none
theorem inb_in {i : Int32} {n : Nat} (h : inb i n = true) : vp_in i n := by
  unfold inb at h
  rw [Bool.and_eq_true, decide_eq_true_eq, decide_eq_true_eq] at h
  exact vp_in_iff.mpr h
theorem hobj_at {σ : HM} {a : Nat} {o : Nat × List Value} (h : hobj σ a = some o) : σ.1 a = some (.inl o) := by
  unfold hobj at h
  split at h
  · rename_i q hq; cases h; exact hq
  · cases h
theorem hia_at {σ : HM} {a : Nat} {o : Nat × (Nat → Int32)} (h : hia σ a = some o) : σ.1 a = some (.inr (.inl o)) := by
  unfold hia at h
  split at h
  · rename_i q hq; cases h; exact hq
  · cases h
theorem hra_at {σ : HM} {a : Nat} {o : Bool × Nat × (Nat → Option Nat)} (h : hra σ a = some o) : σ.1 a = some (.inr (.inr o)) := by
  unfold hra at h
  split at h
  · rename_i q hq; cases h; exact hq
  · cases h
theorem hcls_at {σ : HM} {a c : Nat} (h : hcls σ a = some c) : ∃ fs, σ.1 a = some (.inl (c, fs)) := by
  unfold hcls at h
  cases ho : hobj σ a with
  | none => rw [ho] at h; cases h
  | some o => rw [ho] at h; cases h; exact ⟨o.2, hobj_at ho⟩
theorem HS.put {κ : KP} {A : Nat → Prop} {σ : HM} {H H1 : Heap} {a : Nat} {o o0 : HO} (h : HS κ A σ H) (h0 : σ.1 a = some o0) (he : va_at (kD κ) vwCl (a, toE κ o) H1) (z : H1.size = H.size) (oq : ∀ q : Nat, q ≠ a → H1[q]? = H[q]?) : HS κ A (hset σ a o) H1 := by
  refine ⟨⟨z.trans h.1.1, h.1.2⟩, fun q e hq => ?_⟩
  by_cases hqa : q = a
  · subst hqa
    simp only [hset, va_up, if_true] at hq
    cases hq
    exact ⟨(h.2 q _ h0).1, he⟩
  · simp only [hset, va_up, if_neg hqa] at hq
    exact ⟨(h.2 q _ hq).1, (h.2 q _ hq).2.kept (oq q hqa)⟩
theorem HS.push {κ : KP} {A : Nat → Prop} {σ : HM} {H H1 : Heap} {o : HO} (h : HS κ A σ H) (hκ : kF κ = true) (he : va_at (kD κ) vwCl (H.size, toE κ o) H1) (z : H1.size = H.size + 1) (oq : ∀ q : Nat, q < H.size → H1[q]? = H[q]?) : HS κ A (hnew σ o) H1 := by
  have hA : A H.size := h.1.2 hκ _ (by rw [h.1.1]; exact Nat.le_refl _)
  refine ⟨⟨z.trans (by rw [h.1.1]; rfl), fun hf q hq => h.1.2 hf q (Nat.le_trans (Nat.le_succ _) hq)⟩, fun q e hq => ?_⟩
  by_cases hqa : q = σ.2
  · subst hqa
    simp only [hnew, va_up, if_true] at hq
    cases hq
    rw [← h.1.1]
    exact ⟨hA, he⟩
  · simp only [hnew, va_up, if_neg hqa] at hq
    exact ⟨(h.2 q _ hq).1, (h.2 q _ hq).2.kept (oq q (h.2 q _ hq).2.lt)⟩
/-- a field that is read -/
def FG (own : String) (idx : Nat) (S : List Nat) (k : Nat) : Prop := ∃ (ref nm ds : String), Cond.fieldLink own idx ref nm ds ∈ WT ∧ ∀ c ∈ S, ∃ (C : String) (T : u_T) (N : Nat), vwCl[c]? = some (C, T, N) ∧ k < N ∧ (T k).2.1 = nm ∧ (T k).2.2.1 = ds ∧ (∀ w ∈ u_ws C T N, w ∈ WT) ∧ ((T k).1 = ref ∨ Cond.sameField ref (T k).1 nm ds ∈ WT)
/-- a field that is written -/
def FP (own : String) (idx : Nat) (S : List Nat) (k : Nat) (ty : FieldType) (fin : Bool) : Prop := ∃ (ref nm ds : String), Cond.fieldLink own idx ref nm ds ∈ WT ∧ parseFieldDescriptor ds = some ty ∧ ∀ c ∈ S, ∃ (C : String) (T : u_T) (N : Nat) (ty0 : Nat → FieldType), vwCl[c]? = some (C, T, N) ∧ k < N ∧ (T k).2.1 = nm ∧ (T k).2.2.1 = ds ∧ (∀ w ∈ u_ws C T N, w ∈ WT) ∧ ((T k).1 = ref ∨ Cond.sameField ref (T k).1 nm ds ∈ WT) ∧ (T k).2.2.2 = fin ∧ (∀ j, j < N → parseFieldDescriptor (T j).2.2.1 = some (ty0 j)) ∧ (∀ a, a < N → ∀ b, b < N → a ≠ b → (T a).2.1 ≠ (T b).2.1) ∧ (fin = true → (T k).1 = own)
section JHEAP
variable {Γ : JC} {κ : KP} {cc : ByteArray} {own : String} {nL : Nat} {ret : Option FieldType} {A : Nat → Prop} {σ σ' : HM} {k n pc idx a i : Nat} {S : List Nat} {lv : List (Nat × Value)} {st : List Value}
theorem hfld_at {v : Value} (h : hfld σ S i a = some v) : ∃ o, σ.1 a = some (.inl o) ∧ o.1 ∈ S ∧ o.2[i]? = some v := by
  unfold hfld at h
  split at h
  · rename_i o ho
    split at h
    · rename_i hc
      exact ⟨o, hobj_at ho, by simpa using hc, h⟩
    · cases h
  · cases h
theorem j_getf {v : Value} (E : JE Γ κ cc own nL ret) (F : FG own idx S i) (hd : decode cc pc = .ok (.getfield idx, 3)) (hv : hfld σ S i a = some v) (kk : J Γ nL (HS κ A σ) k n (pc + 3) lv (v :: st)) : J Γ nL (HS κ A σ) k n pc lv (.ref a :: st) := by
  intro H locs ls hH hS hl
  obtain ⟨o, h1, h2, h3⟩ := hfld_at hv
  obtain ⟨ref, nm, ds, f1, f2⟩ := F
  obtain ⟨C, T, N, g1, g2, rfl, rfl, g5, g6⟩ := f2 _ h2
  refine va_get (D := kD κ) (ci := o.1) (fs := o.2) (C := C) (T := T) (N := N) (ref := ref) (ws := [(a, .inr o)]) E.1 E.2.1 E.2.2.2.2.1 g5 E.2.2.2.1 E.2.2.2.2.2.2.2.1.1 ?_ 0 rfl g1 i g2 (E.2.2.2.2.1 _ f1) ?_ h3 hd (kk H locs ls hH hS hl)
  · intro q e hq
    cases q with
    | zero => cases hq; exact (hH.2 a _ h1).2
    | succ q => simp at hq
  · rcases g6 with g6 | g6
    · intro x hx; rw [← g6]; exact hx
    · exact u_same (E.2.2.2.2.1 _ g6)
theorem hfi_at {x : Int32} (h : hfi σ S i a = some x) : hfld σ S i a = some (.int x) := by
  unfold hfi at h
  split at h
  · rename_i y hy; cases h; exact hy
  · cases h
theorem j_getI {x : Int32} (E : JE Γ κ cc own nL ret) (F : FG own idx S i) (hd : decode cc pc = .ok (.getfield idx, 3)) (hv : hfi σ S i a = some x) (kk : J Γ nL (HS κ A σ) k n (pc + 3) lv (.int x :: st)) : J Γ nL (HS κ A σ) k n pc lv (.ref a :: st) := j_getf E F hd (hfi_at hv) kk
theorem hput_at {v : Value} (h : hput σ S i a v = some σ') : ∃ o, σ.1 a = some (.inl o) ∧ o.1 ∈ S ∧ i < o.2.length ∧ σ' = hset σ a (.inl (o.1, o.2.set i v)) := by
  unfold hput at h
  split at h
  · rename_i o ho
    split at h
    · rename_i hc
      rw [Bool.and_eq_true, decide_eq_true_eq] at hc
      exact ⟨o, hobj_at ho, by simpa using hc.1, hc.2, (Option.some.inj h).symm⟩
    · cases h
  · cases h
theorem j_put {v : Value} {ty : FieldType} (E : JE Γ κ cc own nL ret) (F : FP own idx S i ty false) (hd : decode cc pc = .ok (.putfield idx, 3)) (hn : narrow ty v = v) (hf : fits ty v = true) (hv : hput σ S i a v = some σ') (hAA : ∀ q, A q → jA Γ q) (kk : J Γ nL (HS κ A σ') k n (pc + 3) lv st) : J Γ nL (HS κ A σ) k n pc lv (v :: .ref a :: st) := by
  intro H locs ls hH hS hl
  obtain ⟨o, h1, h2, h3, rfl⟩ := hput_at hv
  obtain ⟨ref, nm, ds, f1, f0, f2⟩ := F
  obtain ⟨C, T, N, ty0, hc, hk, rfl, rfl, hin, g6, hfin, hty, hnm, -⟩ := f2 _ h2
  obtain ⟨hAa, hat⟩ := hH.2 a _ h1
  have hK := E.2.2.2.2.2.2.2.1.1
  have hts := E.2.2.2.2.1
  have hap := va_apart (own := own) hts hin ty0 hty hnm hK hc
  obtain ⟨r, r1, cell, q1, q2, q3, q4⟩ := hat
  have hr : r = (C, T, N) := Option.some.inj (r1.symm.trans hc)
  subst hr
  obtain ⟨hSl, hfc, kC, hkC, hkind⟩ := hK.1 o.1 _ hc
  obtain ⟨cf, kf, fi, f, hi, hsl⟩ := hSl i hk
  have hlay := hts _ (hin _ (u_in_lay hk))
  unfold u_lay at hlay
  rw [if_neg (by rw [hfin]; decide)] at hlay
  have hst := (u_facts hfc hkC (u_lays hts hin hk) hi).1
  have h6 := u_store hfc hkC hkind hlay hi f0 hn hf
  have hsame : (jS Γ).fieldFound? ref (T i).2.1 (T i).2.2.1 = some (cf, kf, fi, f) := by
    rcases g6 with g6 | g6
    · rw [← g6]; exact hi
    · exact u_same (hts _ g6) _ hi
  refine W.putK E.1 E.2.1 (f := f) ⟨E.2.2.2.1, hts _ f1, ⟨_, _, _, hsame⟩, hst⟩ (by rw [q2]; exact h6) q1 q3 (by rw [hsl]; exact k2_hasslot (q4 i hk)) rfl rfl hd fun H' e1 e2 e3 => ?_
  rw [hsl] at e1 ⊢
  exact kk H' _ ls (hH.put h1 ⟨_, hc, t_OB.to (V := updV (vp_V o.2) i v) ⟨_, e1, q2, q3, t_set q4 hap hk v⟩ (fun j _ => vp_updV_set h3 v j)⟩ e2 e3) (hS.put e2 e3 (hAA a hAa)) hl
theorem j_putF {v : Value} {ty : FieldType} (E : JE Γ κ cc own nL ret) (F : FP own idx S i ty true) (hI : (jT Γ).name = "<init>") (hd : decode cc pc = .ok (.putfield idx, 3)) (hn : narrow ty v = v) (hf : fits ty v = true) (hv : hput σ S i a v = some σ') (hAA : ∀ q, A q → jA Γ q) (kk : J Γ nL (HS κ A σ') k n (pc + 3) lv st) : J Γ nL (HS κ A σ) k n pc lv (v :: .ref a :: st) := by
  intro H locs ls hH hS hl
  obtain ⟨o, h1, h2, h3, rfl⟩ := hput_at hv
  obtain ⟨ref, nm, ds, f1, f0, f2⟩ := F
  obtain ⟨C, T, N, ty0, hc, hk, rfl, rfl, hin, g6, hfin, hty, hnm, hdecl⟩ := f2 _ h2
  obtain ⟨hAa, hat⟩ := hH.2 a _ h1
  have hK := E.2.2.2.2.2.2.2.1.1
  have hts := E.2.2.2.2.1
  have hap := va_apart (own := own) hts hin ty0 hty hnm hK hc
  obtain ⟨r, r1, cell, q1, q2, q3, q4⟩ := hat
  have hr : r = (C, T, N) := Option.some.inj (r1.symm.trans hc)
  subst hr
  obtain ⟨hSl, hfc, kC, hkC, hkind⟩ := hK.1 o.1 _ hc
  obtain ⟨cf, kf, fi, f, hi, hsl⟩ := hSl i hk
  have hlay := hts _ (hin _ (u_in_lay hk))
  unfold u_lay at hlay
  rw [if_pos hfin] at hlay
  have hst := (u_facts hfc hkC (u_lays hts hin hk) hi).1
  have hcf : (jM Γ).cls = cf := by
    obtain ⟨_, _, c', _, _, _, -, -, hf', -, -, -, hown2, -⟩ := Cond.laysFinal_spec hlay
    have e1 : c' = cf := by have := hi.symm.trans hf'; simp at this; exact this.1.symm
    rw [hdecl rfl] at hown2
    rw [← e1]; exact Option.some.inj (E.2.2.2.1.symm.trans hown2)
  have h6 := u_fits hfc hkC hkind (Or.inr hlay) hi f0 hn hf
  have hsame : (jS Γ).fieldFound? ref (T i).2.1 (T i).2.2.1 = some (cf, kf, fi, f) := by
    rcases g6 with g6 | g6
    · rw [← g6]; exact hi
    · exact u_same (hts _ g6) _ hi
  refine W.putFinK E.1 E.2.1 E.2.2.2.1 (hts _ f1) hsame hst hcf hI (by rw [q2]; exact h6) q1 q3 (by rw [hsl]; exact k2_hasslot (q4 i hk)) rfl rfl hd fun H' e1 e2 e3 => ?_
  rw [hsl] at e1 ⊢
  exact kk H' _ ls (hH.put h1 ⟨_, hc, t_OB.to (V := updV (vp_V o.2) i v) ⟨_, e1, q2, q3, t_set q4 hap hk v⟩ (fun j _ => vp_updV_set h3 v j)⟩ e2 e3) (hS.put e2 e3 (hAA a hAa)) hl
-- arrays
theorem hald_at {ix x : Int32} (h : hald σ a ix = some x) : ∃ q, σ.1 a = some (.inr (.inl q)) ∧ vp_in ix q.1 ∧ q.2 ix.toNatClampNeg = x := by
  unfold hald at h
  split at h
  · rename_i q hq
    split at h
    · rename_i hi; cases h; exact ⟨q, hia_at hq, inb_in hi, rfl⟩
    · cases h
  · cases h
theorem j_iald {ix x : Int32} (E : JE Γ κ cc own nL ret) (hd : decode cc pc = .ok (.iaload, 1)) (hv : hald σ a ix = some x) (kk : J Γ nL (HS κ A σ) k n (pc + 1) lv (.int x :: st)) : J Γ nL (HS κ A σ) k n pc lv (.int ix :: .ref a :: st) := by
  intro H locs ls hH hS hl
  obtain ⟨q, h1, h2, rfl⟩ := hald_at hv
  refine va_iald (D := kD κ) (cl := vwCl) (ws := [(a, .inl (kI κ, q.1, .inl q.2))]) E.1 E.2.1 E.2.2.2.2.2.2.2.1.1 ?_ 0 0 rfl rfl h2 hd (kk H locs ls hH hS hl)
  intro j e hq
  cases j with
  | zero => cases hq; exact (hH.2 a _ h1).2
  | succ j => simp at hq
theorem hast_at {ix x : Int32} (h : hast σ a ix x = some σ') : ∃ q, σ.1 a = some (.inr (.inl q)) ∧ vp_in ix q.1 ∧ σ' = hset σ a (.inr (.inl (q.1, upd q.2 ix.toNatClampNeg x))) := by
  unfold hast at h
  split at h
  · rename_i q hq
    split at h
    · rename_i hi; exact ⟨q, hia_at hq, inb_in hi, (Option.some.inj h).symm⟩
    · cases h
  · cases h
theorem j_iast {ix x : Int32} (E : JE Γ κ cc own nL ret) (hd : decode cc pc = .ok (.iastore, 1)) (hv : hast σ a ix x = some σ') (hAA : ∀ q, A q → jA Γ q) (kk : J Γ nL (HS κ A σ') k n (pc + 1) lv st) : J Γ nL (HS κ A σ) k n pc lv (.int x :: .int ix :: .ref a :: st) := by
  intro H locs ls hH hS hl
  obtain ⟨q, h1, h2, rfl⟩ := hast_at hv
  obtain ⟨hAa, hat⟩ := hH.2 a _ h1
  have hK := E.2.2.2.2.2.2.2.1.1
  refine W.iast E.1 E.2.1 (show H[a]? = some (vp_cell (kI κ) (q.1, .inl q.2)) from hat) ((hK.2 0 _ rfl).1 q.1 (fun j => .int (q.2 j))) (fun z => by cases z) (by show ¬ (ix < 0 ∨ (arrV _ _ _).slots.size ≤ _); rw [arrV_size]; exact h2) rfl rfl hd fun H1 e z oq => ?_
  refine kk H1 _ ls (hH.put h1 ?_ z oq) (hS.put z oq (hAA a hAa)) hl
  show H1[a]? = some (vp_cell _ _)
  rw [e]
  rw [vp_cell_i, vp_cell_i, arrV_store]
  congr 2
  funext j
  by_cases hj : j = ix.toNatClampNeg
  · subst hj
    simp [updV, upd]
  · simp [updV, upd, hj]
theorem j_alen {x : Int32} (E : JE Γ κ cc own nL ret) (hd : decode cc pc = .ok (.arraylength, 1)) (hv : hlen σ a = some x) (kk : J Γ nL (HS κ A σ) k n (pc + 1) lv (.int x :: st)) : J Γ nL (HS κ A σ) k n pc lv (.ref a :: st) := by
  intro H locs ls hH hS hl
  unfold hlen at hv
  split at hv
  · rename_i q h1
    cases hv
    refine va_alen (D := kD κ) (cl := vwCl) (ws := [(a, .inl (kI κ, q.1, .inl q.2))]) (ty := .int) E.1 E.2.1 E.2.2.2.2.2.2.2.1.1 ?_ 0 0 rfl rfl rfl hd (kk H locs ls hH hS hl)
    intro j e hq
    cases j with
    | zero => cases hq; exact (hH.2 a _ h1).2
    | succ j => simp at hq
  · rename_i q h1
    cases hv
    obtain ⟨b, m, f⟩ := q
    refine va_alen (D := kD κ) (cl := vwCl) (ws := [(a, .inl (kB κ b, m, .inr (.inr (.inr (.inr f)))))]) (ty := .object (rkB b)) E.1 E.2.1 E.2.2.2.2.2.2.2.1.1 ?_ 0 (tkB b) rfl (kT_at κ b) rfl hd (kk H locs ls hH hS hl)
    intro j e hq
    cases j with
    | zero => cases hq; exact (hH.2 a _ h1).2
    | succ j => simp at hq
  · cases hv
theorem hrld_at {ix : Int32} {v : Value} (h : hrld σ a ix = some v) : ∃ q, σ.1 a = some (.inr (.inr q)) ∧ vp_in ix q.2.1 ∧ va_rf (q.2.2 ix.toNatClampNeg) = v := by
  unfold hrld at h
  split at h
  · rename_i q hq
    split at h
    · rename_i hi; cases h; exact ⟨q, hra_at hq, inb_in hi, rfl⟩
    · cases h
  · cases h
theorem j_rald {ix : Int32} {v : Value} (E : JE Γ κ cc own nL ret) (hd : decode cc pc = .ok (.aaload, 1)) (hv : hrld σ a ix = some v) (kk : J Γ nL (HS κ A σ) k n (pc + 1) lv (v :: st)) : J Γ nL (HS κ A σ) k n pc lv (.int ix :: .ref a :: st) := by
  intro H locs ls hH hS hl
  obtain ⟨⟨b, m, f⟩, h1, h2, rfl⟩ := hrld_at hv
  refine va_aldq (D := kD κ) (cl := vwCl) (ws := [(a, .inl (kB κ b, m, .inr (.inr (.inr (.inr f)))))]) (C := rkB b) E.1 E.2.1 E.2.2.2.2.2.2.2.1.1 ?_ 0 (tkB b) rfl (kT_at κ b) h2 hd (kk H locs ls hH hS hl)
  intro j e hq
  cases j with
  | zero => cases hq; exact (hH.2 a _ h1).2
  | succ j => simp at hq
/-- what may lie in the arrays of references: classes below the one that they are of -/
def RA (b : Bool) : Prop := ∀ c ∈ rS b, ∃ q : vw_C, vwCl[c]? = some q ∧ (Cond.castable q.1 (rkB b) ∈ NWs ∨ q.1 = (rkB b))
theorem hrst_at {ix : Int32} {v : Value} (h : hrst σ a ix v = some σ') : ∃ q, σ.1 a = some (.inr (.inr q)) ∧ vp_in ix q.2.1 ∧ ((v = .null ∧ σ' = hset σ a (.inr (.inr (q.1, q.2.1, va_up q.2.2 ix.toNatClampNeg none)))) ∨ ∃ y c fs, v = .ref y ∧ σ.1 y = some (.inl (c, fs)) ∧ c ∈ rS q.1 ∧ σ' = hset σ a (.inr (.inr (q.1, q.2.1, va_up q.2.2 ix.toNatClampNeg (some y))))) := by
  unfold hrst at h
  split at h
  · rename_i q hq
    split at h
    · rename_i hi
      refine ⟨q, hra_at hq, inb_in hi, ?_⟩
      split at h
      · exact Or.inl ⟨rfl, (Option.some.inj h).symm⟩
      · rename_i y
        split at h
        · rename_i c hc
          split at h
          · rename_i hcon
            obtain ⟨fs, hfs⟩ := hcls_at hc
            exact Or.inr ⟨y, c, fs, rfl, hfs, by simpa using hcon, (Option.some.inj h).symm⟩
          · cases h
        · cases h
      · cases h
    · cases h
  · cases h
theorem j_assign (E : JE Γ κ cc own nL ret) {b : Bool} (hRA : RA b) {c : Nat} (hc : c ∈ rS b) {comp : ClassId} (hcomp : (jS Γ).vm.findClass (rkB b) = some comp) : ∃ (q : vw_C), vwCl[c]? = some q ∧ (jS Γ).vm.findClass q.1 = some ((kD κ).1 c) ∧ (∃ kC : Class, (jS Γ).vm.classes[(kD κ).1 c]? = some kC) ∧ (jS Γ).vm.assignable ((kD κ).1 c) comp = true := by
  obtain ⟨q, hq, h⟩ := hRA c hc
  have hK := E.2.2.2.2.2.2.2.1.1
  have hcls := (hK.1 c q hq).2
  obtain ⟨kC, hkC, -⟩ := hcls.2
  refine ⟨q, hq, hcls.1, ⟨kC, hkC⟩, ?_⟩
  rcases h with h | h
  · obtain ⟨c0, t1, f1, f2, f3⟩ := Cond.castable_spec (j_nw E h)
    cases hcls.1.symm.trans f1
    cases hcomp.symm.trans f2
    exact f3
  · rw [← h] at hcomp
    cases hcls.1.symm.trans hcomp
    exact va_assign hcls
theorem j_rast {ix : Int32} {v : Value} (E : JE Γ κ cc own nL ret) (hRA : ∀ b, RA b) (hd : decode cc pc = .ok (.aastore, 1)) (hv : hrst σ a ix v = some σ') (hAA : ∀ q, A q → jA Γ q) (kk : J Γ nL (HS κ A σ') k n (pc + 1) lv st) : J Γ nL (HS κ A σ) k n pc lv (v :: .int ix :: .ref a :: st) := by
  intro H locs ls hH hS hl
  have hK := E.2.2.2.2.2.2.2.1.1
  obtain ⟨⟨b, m, f⟩, h1, h2, h3⟩ := hrst_at hv
  obtain ⟨hAa, hat⟩ := hH.2 a _ h1
  have hlt : ix.toNatClampNeg < m := Nat.not_le.mp fun q => h2 (Or.inr q)
  have h0 : ¬ ix < 0 := fun q => h2 (Or.inl q)
  have hty := kT_at κ b
  rcases h3 with ⟨rfl, rfl⟩ | ⟨y, c, fs, rfl, hy, hc, rfl⟩
  · refine va_WaastN (C := rkB b) E.1 E.2.1 (show H[a]? = some (vp_cell (kB κ b) (m, .inr (.inr (.inr (.inr f))))) from hat) ((hK.2 _ _ hty).1 m (fun j => va_rf (f j))) (fun h => by cases h) (by show ¬ (ix < 0 ∨ (arrV _ _ _).slots.size ≤ _); rw [arrV_size]; exact h2) rfl rfl hd fun H1 e z oq => ?_
    refine kk H1 _ ls (hH.put h1 ?_ z oq) (hS.put z oq (hAA a hAa)) hl
    show H1[a]? = some (vp_cell _ _)
    rw [e]
    rw [vp_cell_q, vp_cell_q, arrV_store]
    congr 2
    funext j
    by_cases hj : j = ix.toNatClampNeg
    · subst hj
      simp [updV, va_up, va_rf]
    · simp [updV, va_up, hj]
  · obtain ⟨kA, comp, k1, k2, k3, -⟩ := (hK.2 _ _ hty).2
    obtain ⟨kE, hkE, -⟩ := Vm.findClass_spec k3
    obtain ⟨q, hq, hqc, ⟨kC, hkC⟩, hasg⟩ := j_assign E (hRA b) hc k3
    obtain ⟨r', hr', cellV, g1, g2, g3, -⟩ := (hH.2 y _ hy).2
    refine W.aast E.1 E.2.1 (show H[a]? = some (vp_cell (kB κ b) (m, .inr (.inr (.inr (.inr f))))) from hat) (fun q h => by cases h) (fun h => by cases h) k1 k2 rfl hkE ⟨h0, by show _ < (arrV _ _ _).slots.size; rw [arrV_size]; exact hlt⟩ g1 (fun q h => by rw [g3] at h; cases h) (by rw [g2]; exact hkC) (by rw [g2]; exact hasg) rfl rfl hd fun H1 e z oq => ?_
    refine kk H1 _ ls (hH.put h1 ?_ z oq) (hS.put z oq (hAA a hAa)) hl
    show H1[a]? = some (vp_cell _ _)
    rw [e]
    rw [vp_cell_q, vp_cell_q, arrV_store]
    congr 2
    funext j
    by_cases hj : j = ix.toNatClampNeg
    · subst hj
      simp [updV, va_up, va_rf]
    · simp [updV, va_up, hj]
-- statics
theorem j_gets {C nm ds ref : String} {v : Value} (E : JE Γ κ cc own nL ret) (hZ : va_Z C nm ds v (jA Γ) (jS Γ) (jS Γ).heap) (hw : Cond.fieldLink own idx C nm ds ∈ WT) (hd : decode cc pc = .ok (.getstatic idx, 3)) {HP : Heap → Prop} (kk : J Γ nL HP k n (pc + 3) lv (v :: st)) : J Γ nL HP k n pc lv st :=
  fun H locs ls hH hS hl => va_gets E.1 E.2.1 hZ hS E.2.2.2.1 (E.2.2.2.2.1 _ hw) (fun _ h => h) hd (kk H locs ls hH hS hl)
theorem j_getsN {C nm ds host : String} {v : Value} (E : JE Γ κ cc own nL ret) (hZ : va_Z C nm ds v (jA Γ) (jS Γ) (jS Γ).heap) (hw : Cond.fieldLinkNest own idx C nm ds host ∈ NWs) (hd : decode cc pc = .ok (.getstatic idx, 3)) {HP : Heap → Prop} (kk : J Γ nL HP k n (pc + 3) lv (v :: st)) : J Γ nL HP k n pc lv st :=
  fun H locs ls hH hS hl => va_getsN E.1 E.2.1 hZ hS E.2.2.2.1 (j_nw E hw) (fun _ h => h) hd (kk H locs ls hH hS hl)
theorem j_tld {t N : Nat} {f : Nat → Int32} {ix : Int32} (E : JE Γ κ cc own nL ret) (hT : va_T .int t N (fun j => .int (f j)) (jA Γ) (jS Γ) (jS Γ).heap) (hd : decode cc pc = .ok (.iaload, 1)) (hi : inb ix N = true) {HP : Heap → Prop} (kk : J Γ nL HP k n (pc + 1) lv (.int (f ix.toNatClampNeg) :: st)) : J Γ nL HP k n pc lv (.int ix :: .ref t :: st) :=
  fun H locs ls hH hS hl => va_ti E.1 E.2.1 hT hS (inb_in hi) rfl hd (kk H locs ls hH hS hl)
-- making
theorem j_new {C : String} {T : u_T} {N ci : Nat} {ty0 : Nat → FieldType} {fs : List Value} (E : JE Γ κ cc own nL ret) (hc : vwCl[ci]? = some (C, T, N)) (hw : Cond.classLink own idx C ∈ WT ∧ Cond.instantiable C N ∈ WT ∧ Cond.initialized C ∈ WT) (hin : ∀ w ∈ u_ws C T N, w ∈ WT) (hty : ∀ j, j < N → parseFieldDescriptor (T j).2.2.1 = some (ty0 j)) (hfs : ∀ j, j < N → defaultValue (ty0 j) = vp_V fs j) (hd : decode cc pc = .ok (.new idx, 3)) (hk : k + 1 ≤ (jR Γ).cells) (hn : n + N ≤ (jR Γ).slots) (hκ : kF κ = true)
    (kk : J Γ nL (HS κ A (hnew σ (.inl (ci, fs)))) (k + 1) (n + N) (pc + 3) lv (.ref σ.2 :: st)) : J Γ nL (HS κ A σ) k n pc lv st := by
  intro H locs ls hH hS hl
  have hts := E.2.2.2.2.1
  have hKn := E.2.2.2.2.2.2.2.1.1.1 ci _ hc
  refine W.newcK E.1 E.2.1 E.2.2.2.1 (hts _ hw.1) (hts _ hw.2.1) (hts _ hw.2.2) rfl hd hk hn hKn.2.1 rfl fun H1 kC hkC e1 z1 o1 => ?_
  have hP : HS κ A (hnew σ (.inl (ci, fs))) H1 := hH.push hκ ⟨_, hc, (u_born ty0 hts hin hKn hkC e1 hty).to hfs⟩ z1 o1
  rw [hH.1.1]
  exact kk H1 locs ls hP ⟨Nat.le_trans hS.1 (by omega), fun x h1 h2 => (o1 x (Nat.lt_of_lt_of_le h1 hS.1)).trans (hS.2.1 x h1 h2), hS.2.2⟩ hl
theorem j_newa {m : Int32} {N : Nat} (E : JE Γ κ cc own nL ret) (hw : Cond.arrayClass .int ∈ WT) (hm : ¬ m < 0) (hN : m.toNatClampNeg = N) (hsm : N ≤ 100000) (hd : decode cc pc = .ok (.newarray .int, 2)) (hk : k + 1 ≤ (jR Γ).cells) (hn : n + N ≤ (jR Γ).slots) (hκ : kF κ = true)
    (kk : J Γ nL (HS κ A (hnew σ (.inr (.inl (N, fun _ => 0))))) (k + 1) (n + N) (pc + 2) lv (.ref σ.2 :: st)) : J Γ nL (HS κ A σ) k n pc lv (.int m :: st) := by
  intro H locs ls hH hS hl
  have hts := E.2.2.2.2.1
  refine va_newaK (atype := .int) E.1 E.2.1 (hts _ hw) rfl hd rfl hm hN (by show N * 4 ≤ _; omega) hk hn rfl fun H1 cA e1 z1 o1 hAr hNm => ?_
  have hcA : cA = kI κ := Option.some.inj (hNm.symm.trans (E.2.2.2.2.2.2.2.1.1.2 0 _ rfl).2)
  subst hcA
  have hP : HS κ A (hnew σ (.inr (.inl (N, fun _ => 0)))) H1 := hH.push hκ e1 z1 o1
  rw [hH.1.1]
  exact kk H1 locs ls hP ⟨Nat.le_trans hS.1 (by omega), fun x h1 h2 => (o1 x (Nat.lt_of_lt_of_le h1 hS.1)).trans (hS.2.1 x h1 h2), hS.2.2⟩ hl
theorem j_newr {m : Int32} {N : Nat} (b : Bool) (E : JE Γ κ cc own nL ret) (hw : Cond.classLink own idx (rkB b) ∈ WT ∧ Cond.arrayOver (.object (rkB b)) ∈ NWs) (hm : ¬ m < 0) (hN : m.toNatClampNeg = N) (hsm : N ≤ 100000) (hd : decode cc pc = .ok (.anewarray idx, 3)) (hk : k + 1 ≤ (jR Γ).cells) (hn : n + N ≤ (jR Γ).slots) (hκ : kF κ = true)
    (kk : J Γ nL (HS κ A (hnew σ (.inr (.inr (b, N, fun _ => none))))) (k + 1) (n + N) (pc + 3) lv (.ref σ.2 :: st)) : J Γ nL (HS κ A σ) k n pc lv (.int m :: st) := by
  intro H locs ls hH hS hl
  subst hN
  have hts := E.2.2.2.2.1
  refine W.anew E.1 E.2.1 E.2.2.2.1 (hts _ hw.1) (j_nw E hw.2) rfl hd rfl hm (by omega) hk hn fun cA kA comp f1 f2 f3 f4 => ?_
  generalize hH1 : H.push ({ cls := cA, slots := Array.replicate m.toNatClampNeg .null, vm := .none } : Cell) = H1
  have z1 : H1.size = H.size + 1 := by rw [← hH1, Array.size_push]
  have e1 : H1[H.size]? = some (arrV cA m.toNatClampNeg (fun _ => .null)) := by rw [← hH1, Array.getElem?_push_size, ← arrV_new]
  have o1 : ∀ q : Nat, q < H.size → H1[q]? = H[q]? := fun q hq => by rw [← hH1, Array.getElem?_push, if_neg (Nat.ne_of_lt hq)]
  have hcA : cA = kB κ b := by
    cases b
    · obtain ⟨_, _, -, -, -, h4⟩ := (E.2.2.2.2.2.2.2.1.1.2 1 _ rfl).2
      exact Option.some.inj (f1.symm.trans h4)
    · obtain ⟨_, _, -, -, -, h4⟩ := (E.2.2.2.2.2.2.2.1.1.2 2 _ rfl).2
      exact Option.some.inj (f1.symm.trans h4)
  subst hcA
  have hP : HS κ A (hnew σ (.inr (.inr (b, m.toNatClampNeg, fun _ => none)))) H1 := hH.push hκ e1 z1 o1
  rw [hH.1.1]
  exact kk H1 locs ls hP ⟨Nat.le_trans hS.1 (by omega), fun x h1 h2 => (o1 x (Nat.lt_of_lt_of_le h1 hS.1)).trans (hS.2.1 x h1 h2), hS.2.2⟩ hl
end JHEAP
/-- the receiver's class is looked at -/
def ocl {α : Type} (σ : HM) (a c : Nat) (x : Option α) : Option α := if hcls σ a = some c then x else none
theorem ocl_at {α : Type} {σ : HM} {a c : Nat} {x : Option α} {r : α} (h : ocl σ a c x = some r) : hcls σ a = some c ∧ x = some r := by
  unfold ocl at h
  split at h
  · rename_i hc; exact ⟨hc, h⟩
  · cases h
abbrev sP : List Nat := [0, 1, 3, 4, 5, 6, 7, 9]
