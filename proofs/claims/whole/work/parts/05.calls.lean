/-! CALLS -/
section JCALL
variable {Γ : JC} {κ : KP} {cc : ByteArray} {own : String} {nL : Nat} {ret : Option FieldType} {HP HP1 P P1 : Heap → Prop} {A1 : Nat → Prop} {k n pc idx mc ms : Nat} {lv : List (Nat × Value)} {st rest : List Value} {o : Option Value}
theorem j_run {a : Array Value} (E : JE Γ κ cc own nL ret) (hA1 : ∀ q, A1 q → jA Γ q)
    (hpost : ∀ H H1, HP H → P1 H1 → H.size ≤ H1.size → (∀ q, q < H.size → ¬ A1 q → H1[q]? = H[q]?) → HP1 H1)
    (hr : ∀ (H : Heap) (locs : List Loc) (ls : Array Slot), HP H → va_S (jA Γ) (jS Γ).heap H locs → lv_has ls nL lv → va_Run (jP Γ) (jL Γ) (jE Γ) (jR Γ) (jS Γ) (jM Γ) (jV Γ) (jB Γ) (jT Γ) (jC Γ) H locs k n mc ms (F0 (jM Γ) pc ls st) rest (QQ o P1 A1 a) A1)
    (kk : J Γ nL HP1 (k + mc) (n + ms) (pc + 3) lv (o.toList ++ rest)) : J Γ nL HP k n pc lv st := by
  intro H locs ls hH hS hl T hT X
  obtain ⟨v, st₀, t, T', L, h0, X', hL, e1, e2, ⟨hv, hp, hz, hk⟩, stp⟩ := hr H locs ls hH hS hl T hT X
  cases hv
  rw [h0] at hz hk
  have hS' : va_S (jA Γ) (jS Γ).heap T'.heap (locs ++ L) := ⟨Nat.le_trans hS.1 (by rw [e1]; exact hz), fun q h1 h2 => by rw [e1, hk q (Nat.lt_of_lt_of_le h1 hS.1) (fun z => h2 (hA1 q z))]; exact hS.2.1 q h1 h2, fun q hq => by
      rcases List.mem_append.mp hq with h | h
      · exact hS.2.2 q h
      · exact hA1 _ (hL q h)⟩
  obtain ⟨t2, a1, b1⟩ := kk T'.heap (locs ++ L) ls (hpost H T'.heap hH (by rw [e1]; exact hp) (by rw [e1]; exact hz) (fun q h1 h2 => by rw [e1]; exact hk q h1 h2)) hS' hl T' rfl X'
  exact ⟨t2, stp t2 a1, b1⟩
/-- how much a callee may take: frames and words of locals by its level -/
def rmL (d mc ms : Nat) : Room := { frames := d, cells := mc, slots := ms, locals := 40 * d }
theorem rmL_le {d D mL : Nat} {C S : Nat} (h : d < D) (hm : mL ≤ 21) : (rmL d mc ms).frames + 1 ≤ (rmL D C S).frames ∧ 8 + (mL + 11) + (rmL d mc ms).locals ≤ (rmL D C S).locals := by
  show d + 1 ≤ D ∧ 8 + (mL + 11) + 40 * d ≤ 40 * D
  omega
theorem j_cwords (E : JE Γ κ cc own nL ret) {y : MethodName} {bytes : ByteArray} {maxL N d : Nat} {ret' : Option FieldType} (hR : (rmL d mc ms).frames + 1 ≤ (jR Γ).frames ∧ 8 + (maxL + 11) + (rmL d mc ms).locals ≤ (jR Γ).locals) (hc : Cond.code y bytes maxL ret' ∈ WT) (hi : Cond.initialized y.cls ∈ WT) (hl : Cond.methodLink own idx y ∈ WT)
    (hd : y.cls ≠ "java/lang/invoke/MethodHandle" ∧ y.cls ≠ "java/lang/invoke/VarHandle" ∧ (parseMethodDescriptor y.desc).map (fun d => d.parameters.length) = some N) :
    CallB (jR Γ) (jS Γ) (jV Γ) own idx y bytes maxL ret' (Cond.code y bytes maxL ret' :: WT) (rmL d mc ms) mc ms N :=
  callB_of N E.2.2.2.2.1 (wt_goodIn hc) rfl rfl rfl (E.2.2.2.2.1 _ hi) (E.2.2.2.2.1 _ hl) hd hR
theorem j_fix (E : JE Γ κ cc own nL ret) : CallFix (jP Γ) (jM Γ) (jC Γ) cc nL (jS Γ) (jV Γ) WT own := ⟨E.1, E.2.1, E.2.2.1, E.2.2.2.1, E.2.2.2.2.1⟩
theorem j_start (E : JE Γ κ cc own nL ret) (hA1 : ∀ q, A1 q → jA Γ q) {H : Heap} {locs : List Loc} (hS : va_S (jA Γ) (jS Γ).heap H locs) (hp : P H) {As : List Value} : ∀ U : State, U.heap = H → (jS Γ).WarmedH U.vm → PP κ A1 As P As.toArray U :=
  fun U hU hW => ⟨rfl, by rw [hU]; exact hp, KX_up (KX_go E.2.2.2.2.2.2.2.1 hS hU hW) hA1⟩
/-- the words of a static call -/
def CS (own : String) (idx : Nat) (y : MethodName) (bytes : ByteArray) (maxL N : Nat) (ret' : Option FieldType) : Prop := Cond.code y bytes maxL ret' ∈ WT ∧ Cond.initialized y.cls ∈ WT ∧ Cond.methodLink own idx y ∈ WT ∧ Cond.static y ∈ WT ∧ (y.cls ≠ "java/lang/invoke/MethodHandle" ∧ y.cls ≠ "java/lang/invoke/VarHandle" ∧ (parseMethodDescriptor y.desc).map (fun d => d.parameters.length) = some N)
theorem j_calls {y : MethodName} {bytes : ByteArray} {maxL N d : Nat} {ret' : Option FieldType} (As : List Value) (rest : List Value) (E : JE Γ κ cc own nL ret) (w : CS own idx y bytes maxL N ret') (hR : (rmL d mc ms).frames + 1 ≤ (jR Γ).frames ∧ 8 + (maxL + 11) + (rmL d mc ms).locals ≤ (jR Γ).locals) (hA1 : ∀ q, A1 q → jA Γ q)
    (hM : Met (jL Γ) y (Cond.code y bytes maxL ret' :: WT) (rmL d mc ms) (PP κ A1 As P) (QQ o P1 A1) mc ms A1) (hpre : ∀ H, HP H → P H)
    (hpost : ∀ H H1, HP H → P1 H1 → H.size ≤ H1.size → (∀ q, q < H.size → ¬ A1 q → H1[q]? = H[q]?) → HP1 H1)
    (hst : st = As.reverse ++ rest) (hn : As.length = N) (hcat : (rest.map fun v => v.category).sum ≤ 8) (hd : decode cc pc = .ok (.invokestatic idx, 3)) (hk : k + mc ≤ (jR Γ).cells ∧ n + ms ≤ (jR Γ).slots)
    (kk : J Γ nL HP1 (k + mc) (n + ms) (pc + 3) lv (o.toList ++ rest)) : J Γ nL HP k n pc lv st := by
  refine j_run (a := As.toArray) E hA1 hpost (fun H locs ls hH hS hl => ?_) kk
  exact va_runS (As := As) (rest := rest) (j_fix E) hM ⟨j_cwords E hR w.1 w.2.1 w.2.2.1 w.2.2.2.2, E.2.2.2.2.1 _ w.2.2.2.1⟩ ⟨PP_blind, j_start E hA1 hS (hpre H hH)⟩ rfl hn hl.1 hst (lv_room hcat) hd hk
/-- an object of class number c at a: what calls ask of it -/
theorem j_recv {A : Nat → Prop} {σ : HM} {H : Heap} {a c : Nat} {q : vw_C} (E : JE Γ κ cc own nL ret) (hH : HS κ A σ H) (hc : hcls σ a = some c) (hq : vwCl[c]? = some q) : ∃ cell : Cell, H[a]? = some cell ∧ cell.vm.isStatics = false ∧ (jS Γ).vm.findClass q.1 = some cell.cls := by
  obtain ⟨fs, hfs⟩ := hcls_at hc
  refine va_recv (ws := [(a, .inr (c, fs))]) (q0 := 0) E.2.2.2.2.2.2.2.1.1 (?_ : va_P (kD κ) vwCl [(a, .inr (c, fs))] H) hq rfl
  intro j e hj
  cases j with
  | zero => cases hj; exact (hH.2 a _ hfs).2
  | succ j => simp at hj
/-- the words of a virtual call of a method that the receiver's class itself holds, named through it -/
def CV (own : String) (idx : Nat) (C : String) (y : MethodName) (bytes : ByteArray) (maxL N : Nat) (ret' : Option FieldType) : Prop := Cond.code y bytes maxL ret' ∈ WT ∧ Cond.initialized y.cls ∈ WT ∧ Cond.methodLink own idx y ∈ WT ∧ Cond.instanceMethod y ∈ WT ∧ Cond.selects C y y ∈ WT ∧ (y.cls ≠ "java/lang/invoke/MethodHandle" ∧ y.cls ≠ "java/lang/invoke/VarHandle" ∧ (parseMethodDescriptor y.desc).map (fun d => d.parameters.length) = some N)
theorem j_callv {y : MethodName} {bytes : ByteArray} {maxL N d : Nat} {ret' : Option FieldType} {b : Nat} {C : String} (As : List Value) (rest : List Value) (E : JE Γ κ cc own nL ret) (w : CV own idx C y bytes maxL N ret') (hR : (rmL d mc ms).frames + 1 ≤ (jR Γ).frames ∧ 8 + (maxL + 11) + (rmL d mc ms).locals ≤ (jR Γ).locals) (hA1 : ∀ q, A1 q → jA Γ q)
    (hM : Met (jL Γ) y (Cond.code y bytes maxL ret' :: WT) (rmL d mc ms) (PP κ A1 (.ref b :: As) P) (QQ o P1 A1) mc ms A1) (hpre : ∀ H, HP H → P H)
    (hpost : ∀ H H1, HP H → P1 H1 → H.size ≤ H1.size → (∀ q, q < H.size → ¬ A1 q → H1[q]? = H[q]?) → HP1 H1)
    (hrv : ∀ H, HP H → ∃ cell : Cell, H[b]? = some cell ∧ cell.vm.isStatics = false ∧ (jS Γ).vm.findClass C = some cell.cls)
    (hst : st = As.reverse ++ .ref b :: rest) (hn : As.length = N) (hcat : (rest.map fun v => v.category).sum ≤ 8) (hd : decode cc pc = .ok (.invokevirtual idx, 3)) (hk : k + mc ≤ (jR Γ).cells ∧ n + ms ≤ (jR Γ).slots)
    (kk : J Γ nL HP1 (k + mc) (n + ms) (pc + 3) lv (o.toList ++ rest)) : J Γ nL HP k n pc lv st := by
  refine j_run (a := (Value.ref b :: As).toArray) E hA1 hpost (fun H locs ls hH hS hl => ?_) kk
  exact va_runV (As := As) (rest := rest) (j_fix E) hM ⟨j_cwords E hR w.1 w.2.1 w.2.2.1 w.2.2.2.2.2, E.2.2.2.2.1 _ w.2.2.2.1, E.2.2.2.2.1 _ w.2.2.2.2.1⟩ ⟨PP_blind, hrv H hH, j_start E hA1 hS (hpre H hH)⟩ rfl hn hl.1 hst (lv_room hcat) hd hk
/-- the words of a virtual call of a method x that C inherits or overrides by y -/
def CU (own : String) (idx : Nat) (C owner : String) (x y : MethodName) (bytes : ByteArray) (maxL N : Nat) (ret' : Option FieldType) : Prop := Cond.code y bytes maxL ret' ∈ WT ∧ Cond.initialized y.cls ∈ WT ∧ Cond.methodLink own idx x ∈ WT ∧ Cond.instanceMethod y ∈ WT ∧ Cond.selects C x y ∈ WT ∧ Cond.sameMethod x.cls owner x.name x.desc ∈ WT ∧ Cond.instanceMethod ⟨owner, x.name, x.desc⟩ ∈ WT ∧ (∃ b0 m0 r0, Cond.code ⟨owner, x.name, x.desc⟩ b0 m0 r0 ∈ WT) ∧ (owner ≠ "java/lang/invoke/MethodHandle" ∧ owner ≠ "java/lang/invoke/VarHandle" ∧ (parseMethodDescriptor x.desc).map (fun d => d.parameters.length) = some N)
theorem j_callu {x y : MethodName} {bytes : ByteArray} {maxL N d : Nat} {ret' : Option FieldType} {b : Nat} {C owner : String} (As : List Value) (rest : List Value) (E : JE Γ κ cc own nL ret) (w : CU own idx C owner x y bytes maxL N ret') (hR : (rmL d mc ms).frames + 1 ≤ (jR Γ).frames ∧ 8 + (maxL + 11) + (rmL d mc ms).locals ≤ (jR Γ).locals) (hA1 : ∀ q, A1 q → jA Γ q)
    (hM : Met (jL Γ) y (Cond.code y bytes maxL ret' :: WT) (rmL d mc ms) (PP κ A1 (.ref b :: As) P) (QQ o P1 A1) mc ms A1) (hpre : ∀ H, HP H → P H)
    (hpost : ∀ H H1, HP H → P1 H1 → H.size ≤ H1.size → (∀ q, q < H.size → ¬ A1 q → H1[q]? = H[q]?) → HP1 H1)
    (hrv : ∀ H, HP H → ∃ cell : Cell, H[b]? = some cell ∧ cell.vm.isStatics = false ∧ (jS Γ).vm.findClass C = some cell.cls)
    (hst : st = As.reverse ++ .ref b :: rest) (hn : As.length = N) (hcat : (rest.map fun v => v.category).sum ≤ 8) (hd : decode cc pc = .ok (.invokevirtual idx, 3)) (hk : k + mc ≤ (jR Γ).cells ∧ n + ms ≤ (jR Γ).slots)
    (kk : J Γ nL HP1 (k + mc) (n + ms) (pc + 3) lv (o.toList ++ rest)) : J Γ nL HP k n pc lv st := by
  refine j_run (a := (Value.ref b :: As).toArray) E hA1 hpost (fun H locs ls hH hS hl => ?_) kk
  obtain ⟨w1, w2, w3, w4, w5, w6, w7, ⟨b0, m0, r0, w8⟩, w9, w10, w11⟩ := w
  have ok := E.2.2.2.2.1
  have cu : va_CU (jR Γ) (jS Γ) (jV Γ) own C owner idx x y bytes maxL ret' (Cond.code y bytes maxL ret' :: WT) (rmL d mc ms) mc ms N :=
    ⟨⟨rfl, rfl, hR.1, hR.2, pay_in ok (wt_goodIn w1), List.mem_cons_self⟩, ok _ w1, ok _ w2, ⟨w9, w10⟩, fun sig h => by rw [h] at w11; exact (Option.some.inj w11).symm, ok _ w3, ok _ w6, va_Decl.of (ok _ w7) (ok _ w8), ok _ w5, ok _ w4⟩
  exact va_runU (As := As) (rest := rest) (j_fix E) hM cu ⟨PP_blind, hrv H hH, j_start E hA1 hS (hpre H hH)⟩ rfl hn hl.1 hst (lv_room hcat) hd hk
/-- the words of super.m(..) -/
def CX (own : String) (idx : Nat) (y : MethodName) (bytes : ByteArray) (maxL N : Nat) (ret' : Option FieldType) : Prop := Cond.code y bytes maxL ret' ∈ WT ∧ Cond.initialized y.cls ∈ WT ∧ Cond.methodLink own idx y ∈ WT ∧ Cond.instanceMethod y ∈ WT ∧ Cond.sameMethod y.cls y.cls y.name y.desc ∈ WT ∧ Cond.superclass own y.cls ∈ WT ∧ (y.name ≠ "<init>" ∧ (parseMethodDescriptor y.desc).map (fun d => d.parameters.length) = some N)
theorem j_callx {A : Nat → Prop} {σ : HM} {y : MethodName} {bytes : ByteArray} {maxL N d : Nat} {ret' : Option FieldType} {b : Nat} (As : List Value) (rest : List Value) (E : JE Γ κ cc own nL ret) (w : CX own idx y bytes maxL N ret') (hR : (rmL d mc ms).frames + 1 ≤ (jR Γ).frames ∧ 8 + (maxL + 11) + (rmL d mc ms).locals ≤ (jR Γ).locals) (hA1 : ∀ q, A1 q → jA Γ q)
    (hM : Met (jL Γ) y (Cond.code y bytes maxL ret' :: WT) (rmL d mc ms) (PP κ A1 (.ref b :: As) (HS κ A σ)) (QQ o P1 A1) mc ms A1) {c : Nat} (hcl : hcls σ b = some c) (hcv : c < 12)
    (hpost : ∀ H H1, HS κ A σ H → P1 H1 → H.size ≤ H1.size → (∀ q, q < H.size → ¬ A1 q → H1[q]? = H[q]?) → HP1 H1)
    (hst : st = As.reverse ++ .ref b :: rest) (hn : As.length = N) (hcat : (rest.map fun v => v.category).sum ≤ 8) (hd : decode cc pc = .ok (.invokespecial idx, 3)) (hk : k + mc ≤ (jR Γ).cells ∧ n + ms ≤ (jR Γ).slots)
    (kk : J Γ nL HP1 (k + mc) (n + ms) (pc + 3) lv (o.toList ++ rest)) : J Γ nL (HS κ A σ) k n pc lv st := by
  refine j_run (a := (Value.ref b :: As).toArray) E hA1 hpost (fun H locs ls hH hS hl => ?_) kk
  obtain ⟨w1, w2, w3, w4, w5, w6, w7, w8⟩ := w
  have ok := E.2.2.2.2.1
  obtain ⟨q, hq⟩ : ∃ q, vwCl[c]? = some q := ⟨_, List.getElem?_eq_getElem (l := vwCl) hcv⟩
  have cs : va_CS (jR Γ) (jS Γ) (jV Γ) own idx y bytes maxL ret' (Cond.code y bytes maxL ret' :: WT) (rmL d mc ms) mc ms N :=
    ⟨⟨rfl, rfl, hR.1, hR.2, pay_in ok (wt_goodIn w1), List.mem_cons_self⟩, ok _ w3, ok _ w5, ok _ w6, ok _ w4, ok _ w2, ok _ w1, w7, fun sig h => by rw [h] at w8; exact (Option.some.inj w8).symm⟩
  exact va_runSU (C := q.1) (As := As) (rest := rest) (E.2.2.2.2.2.2.2.1.1.1 c q hq).2 (j_fix E) hM cs ⟨PP_blind, j_recv E hH hcl hq, j_start E hA1 hS hH⟩ rfl hn hl.1 hst (lv_room hcat) hd hk
/-- the words of a constructor's call -/
def CI (own : String) (idx : Nat) (y : MethodName) (bytes : ByteArray) (maxL N : Nat) : Prop := Cond.code y bytes maxL none ∈ WT ∧ Cond.initialized y.cls ∈ WT ∧ Cond.methodLink own idx y ∈ WT ∧ Cond.instanceMethod y ∈ WT ∧ y.name = "<init>" ∧ (y.cls ≠ "java/lang/invoke/MethodHandle" ∧ y.cls ≠ "java/lang/invoke/VarHandle" ∧ (parseMethodDescriptor y.desc).map (fun d => d.parameters.length) = some N)
theorem j_calli {y : MethodName} {bytes : ByteArray} {maxL N d : Nat} {b : Nat} (As : List Value) (rest : List Value) (E : JE Γ κ cc own nL ret) (w : CI own idx y bytes maxL N) (hR : (rmL d mc ms).frames + 1 ≤ (jR Γ).frames ∧ 8 + (maxL + 11) + (rmL d mc ms).locals ≤ (jR Γ).locals) (hA1 : ∀ q, A1 q → jA Γ q)
    (hM : Met (jL Γ) y (Cond.code y bytes maxL none :: WT) (rmL d mc ms) (PP κ A1 (.ref b :: As) P) (QQ none P1 A1) mc ms A1) (hpre : ∀ H, HP H → P H)
    (hpost : ∀ H H1, HP H → P1 H1 → H.size ≤ H1.size → (∀ q, q < H.size → ¬ A1 q → H1[q]? = H[q]?) → HP1 H1)
    (hst : st = As.reverse ++ .ref b :: rest) (hn : As.length = N) (hcat : (rest.map fun v => v.category).sum ≤ 8) (hd : decode cc pc = .ok (.invokespecial idx, 3)) (hk : k + mc ≤ (jR Γ).cells ∧ n + ms ≤ (jR Γ).slots)
    (kk : J Γ nL HP1 (k + mc) (n + ms) (pc + 3) lv rest) : J Γ nL HP k n pc lv st := by
  refine j_run (a := (Value.ref b :: As).toArray) (o := none) E hA1 hpost (fun H locs ls hH hS hl => ?_) kk
  exact va_runI (As := As) (rest := rest) (j_fix E) hM ⟨j_cwords E hR w.1 w.2.1 w.2.2.1 w.2.2.2.2.2, w.2.2.2.2.1, E.2.2.2.2.1 _ w.2.2.2.1⟩ ⟨PP_blind, j_start E hA1 hS (hpre H hH)⟩ rfl hn hl.1 hst (lv_room hcat) hd hk
/-- Object.<init> -/
theorem j_obj {b : Nat} (E : JE Γ κ cc own nL ret) (hw : Cond.methodLink own idx objectInit ∈ WT ∧ Cond.instanceMethod objectInit ∈ WT ∧ Cond.code objectInit ⟨#[0xb1]⟩ 1 none ∈ WT) (hd : decode cc pc = .ok (.invokespecial idx, 3)) (hf : 1 ≤ (jR Γ).frames) (hlo : (rest.map fun v => v.category).sum + 12 ≤ (jR Γ).locals) (kk : J Γ nL HP k n (pc + 3) lv rest) : J Γ nL HP k n pc lv (.ref b :: rest) := by
  intro H locs ls hH hS hl
  refine W.objInit E.1 E.2.1 E.2.2.2.1 (E.2.2.2.2.1 _ hw.1) (E.2.2.2.2.1 _ hw.2.1) (E.2.2.2.2.1 _ hw.2.2) rfl (by rw [E.2.2.1]; exact hl.1) rfl hd hf ?_ (kk H locs ls hH hS hl)
  show 2 * 0 + _ + 12 ≤ _
  omega
end JCALL
