/-! THE THROWERS: what they need beside, contracts that return or throw -/
def exN : List String := ["java/lang/RuntimeException", "java/lang/Exception"]
def sISE : String := "java/lang/IllegalStateException"
def sIAE : String := "java/lang/IllegalArgumentException"
def sUOE : String := "java/lang/UnsupportedOperationException"
def kyAt : List Cond := vx_atS RX10 239 sIAE exN ++ (vx_atS RX10 246 sISE exN ++ (vx_atS RX6 17 sISE exN ++ (vx_atS RX3 21 sIAE exN ++ vx_atS RX7 21 sUOE exN)))
def kyW : List Cond := kyAt.filter (fun w => !goodWord w)
def kyS : List (String × Nat × String) := [(RX3, 19, "a novice's failure"), (RX7, 19, "a priest's failure"), (RX6, 15, "a failure"), (RX10, 237, "no such shelf"), (RX10, 244, "no row, or no such place")]
def kyN : List (String × String) := [(sIAE, sISE), (sIAE, sUOE), (sISE, sIAE), (sISE, sUOE), (sUOE, sIAE), (sUOE, sISE)]
def kyK (w : Cond) : Prop := (∃ C T, w = .castable C T) ∨ ∃ x, w = .declares x
def kyB (w : Cond) : Bool := match w with
  | .castable _ _ => true
  | .declares _ => true
  | _ => false
theorem kyB_k {w : Cond} (h : kyB w = true) : kyK w := by
  unfold kyB at h
  split at h
  · exact Or.inl ⟨_, _, rfl⟩
  · exact Or.inr ⟨_, rfl⟩
  · cases h
theorem kyW_k : ∀ w ∈ kyW, kyK w := fun w hw => kyB_k (List.all_eq_true.mp (by decide +kernel : kyW.all kyB = true) w hw)
theorem ky_good : ∀ w ∈ kyAt, goodWord w = true → w ∈ WT := fun w hw g => wt_in (List.all_eq_true.mp (by decide +kernel : (kyAt.filter goodWord).all (fun w => decide (w ∈ lw_tbl)) = true) w (List.mem_filter.mpr ⟨hw, g⟩) |> of_decide_eq_true) g
def KY (A : Nat → Prop) (U : State) : Prop := vx_Zq Bundle.tN "UNASSIGNED_STACK" Bundle.steD A U U.heap ∧ vx_Zq Bundle.tN "SUPPRESSED_SENTINEL" Bundle.listD A U U.heap ∧ (∀ q ∈ kyS, ∃ sa, vk_R q.1 q.2.1 q.2.2 sa U) ∧ (∀ q ∈ kyN, va_Nc q.1 q.2 U) ∧ ∀ w ∈ kyW, va_Nw w U
theorem KY_go {A : Nat → Prop} {s U : State} {H : Heap} {locs : List Loc} (h : KY A s) (hS : va_S A s.heap H locs) (hU : U.heap = H) (hW : s.WarmedH U.vm) : KY A U := by
  obtain ⟨h1, h2, h3, h4, h5⟩ := h
  have hq : ∀ a : Nat, a < s.heap.size → ¬ A a → U.heap[a]? = s.heap[a]? := by rw [hU]; exact hS.2.1
  refine ⟨(vx_Zq.moved hW.alike h1).kept hq, (vx_Zq.moved hW.alike h2).kept hq, fun q hq => ?_, fun q hq => va_Nc.moved hW.alike (h4 q hq), fun w hw => ?_⟩
  · obtain ⟨sa, hsa⟩ := h3 q hq
    exact ⟨sa, vk_R.warm hW hsa⟩
  · have h6 := h5 w hw
    rcases kyW_k w hw with ⟨C, T, rfl⟩ | ⟨x, rfl⟩
    · exact va_Nw.warmC hW h6
    · exact va_Nw.warmD hW h6
theorem KY_up {A B : Nat → Prop} {U : State} (h : KY A U) (hAB : ∀ q, B q → A q) : KY B U := ⟨h.1.narrow hAB, h.2.1.narrow hAB, h.2.2⟩
def PY (κ : KP) (A : Nat → Prop) (av : List Value) (HP : Heap → Prop) : Array Value → State → Prop := fun v U => PP κ A av HP v U ∧ KY A U
theorem PY_blind {κ : KP} {A : Nat → Prop} {av : List Value} {HP : Heap → Prop} : FrameBlind (PY κ A av HP) := by
  intro a U g mk h
  obtain ⟨h0, h1, h2, h3, h4, h5⟩ := h
  have hal : U.vm.Alike (U.calling g mk a).vm := Vm.Alike.refl U.vm
  refine ⟨PP_blind _ _ _ _ h0, vx_Zq.moved hal h1, vx_Zq.moved hal h2, fun q hq => ?_, fun q hq => va_Nc.moved hal (h4 q hq), fun w hw => ?_⟩
  · obtain ⟨sa, hsa⟩ := h3 q hq
    exact ⟨sa, vk_R.same (u := U) rfl hsa⟩
  · have h6 := h5 w hw
    rcases kyW_k w hw with ⟨C, T, rfl⟩ | ⟨x, rfl⟩
    · exact va_Nw.same (u := U) rfl rfl h6
    · exact va_Nw.same (u := U) rfl rfl h6
theorem HS.grow {κ : KP} {A : Nat → Prop} {σ : HM} {H H1 : Heap} (h : HS κ A σ H) (hz : H.size ≤ H1.size) (hk : ∀ q : Nat, q < H.size → H1[q]? = H[q]?) : HS κ A (σ.1, H1.size) H1 :=
  ⟨⟨rfl, fun hf q hq => h.1.2 hf q (by rw [← h.1.1]; exact Nat.le_trans hz hq)⟩, fun a o ha => ⟨(h.2 a o ha).1, (h.2 a o ha).2.kept (hk a (h.2 a o ha).2.lt)⟩⟩
/-- what is left behind a throw of E: the map as it was, more cells perhaps -/
def XX (κ : KP) (A : Nat → Prop) (fl : Option String) (σ : HM) : String → State → State → Prop := fun E st t => fl = some E ∧ (∃ n, HS κ A (σ.1, n) t.heap) ∧ va_F A st t
/-- how a call that may throw ends: fl says what it throws -/
def QF (fl : Option String) (o : Option Value) (HP : Heap → Prop) (A : Nat → Prop) : Array Value → State → Outcome → State → Prop := fun a st oc t => fl = none ∧ QQ o HP A a st oc t
def JX (Γ : JC) (Qc : Array Value → State → Outcome → State → Prop) (XC : String → State → State → Prop) (mc ms : Nat) : Prop := jQ Γ = vx_MQ (jB Γ) Qc XC (jV Γ) (jS Γ) mc ms (jA Γ)
theorem mx_of {κ : KP} {A : Nat → Prop} {l : Launch} {y : MethodName} {own : String} {cc : ByteArray} {maxL : Nat} {ret : Option FieldType} {rm : Room} {av : List Value} {HP : Heap → Prop} {Qc : Array Value → State → Outcome → State → Prop} {XC : String → State → State → Prop} {mc ms : Nat} (hy : plainName y.cls = true) (ho : y.cls = own) (hav : (lg_sl av).length ≤ maxL)
    (body : ∀ Γ : JC, JE Γ κ cc own maxL ret → JX Γ Qc XC mc ms → jL Γ = l → jR Γ = rm → jA Γ = A → HP (jS Γ).heap → KY A (jS Γ) → (∀ x ∈ (jC Γ).exceptionTable.toList, False) → J Γ maxL HP 0 0 0 (lv_args 0 av) []) :
    vx_Met l y (Cond.code y cc maxL ret :: WT) rm (PY κ A av HP) Qc XC mc ms A := by
  subst ho
  refine vx_ofW (cc := cc) (maxL := maxL) (ret := ret) hy rfl ?_
  intro p e s m args below meth c s₁ B hml htab hv
  obtain ⟨⟨rfl, hH, hK⟩, hY⟩ := hv
  have hts := atoms_spec (ws := Cond.code y cc maxL ret :: WT) B.pre
  have hown : s.vm.findClass y.cls = some m.cls := findClass_of_methodNamed B.named
  have E : JE ((p, l, e, (headSpec (Cond.code y cc maxL ret :: WT) rm).room), (s, m, av.toArray, below), (meth, c), (A, vx_MQ below Qc XC av.toArray s mc ms A)) κ cc y.cls maxL ret :=
    ⟨B.exec, B.bytes, hml, hown, fun w h => hts w (List.mem_cons_of_mem _ h), B.notSynchronized, trivial, hK, B.returns⟩
  have K := body _ E rfl rfl rfl rfl hH hY htab s.heap [] _ hH va_S.rf (lv_entry av hav)
  rw [lg_entry_eq]
  exact K
section JTHROW
variable {Γ : JC} {κ : KP} {cc : ByteArray} {own : String} {nL : Nat} {ret : Option FieldType} {HP HP1 : Heap → Prop} {A : Nat → Prop} {σ : HM} {k n pc mc ms : Nat} {lv : List (Nat × Value)} {st : List Value}
/-- a plain end of a method that may throw -/
theorem jx_vret {Qc : Array Value → State → Outcome → State → Prop} {XC : String → State → State → Prop} (E : JE Γ κ cc own nL none) (hQ : JX Γ Qc XC mc ms) (hq : ∀ t : State, HP t.heap → va_F (jA Γ) (jS Γ) t → Qc (jV Γ) (jS Γ) (.returned none) t) (hd : decode cc pc = .ok (.return_, 1)) (hk : k ≤ mc) (hn : n ≤ ms) : J Γ nL HP k n pc lv [] := by
  intro H locs ls hH hS hl
  rw [hQ]
  refine W.widen hk hn (vx_ret ?_)
  exact W.vret E.1 E.2.1 E.2.2.2.2.2.2.2.2 (fun t ht _ => hq t (by rw [ht]; exact hH) (hS.F ht)) hS.2.2 hd E.2.2.2.2.2.1
theorem jx_lret {Qc : Array Value → State → Outcome → State → Prop} {XC : String → State → State → Prop} {u : Int64} (E : JE Γ κ cc own nL (some .long)) (hQ : JX Γ Qc XC mc ms) (hq : ∀ t : State, HP t.heap → va_F (jA Γ) (jS Γ) t → Qc (jV Γ) (jS Γ) (.returned (some (.long u))) t) (hd : decode cc pc = .ok (.lreturn, 1)) (hk : k ≤ mc) (hn : n ≤ ms) : J Γ nL HP k n pc lv [.long u] := by
  intro H locs ls hH hS hl
  rw [hQ]
  refine W.widen hk hn (vx_ret ?_)
  exact W.lret E.1 E.2.1 E.2.2.2.2.2.2.2.2 (fun t ht _ => hq t (by rw [ht]; exact hH) (hS.F ht)) hS.2.2 hd E.2.2.2.2.2.1
/-- new X("text") thrown -/
theorem j_throwS {Qc : Array Value → State → Outcome → State → Prop} {cls text : String} {ik is ic : Nat} {fl : Option String} (E : JE Γ κ cc own nL ret) (hY : KY (jA Γ) (jS Γ)) (hQ : JX Γ Qc (XX κ A fl σ) mc ms) (hA : jA Γ = A) (hlt : (jL Γ).stackTraces = false) (hfl : fl = some cls) (hfit : Bundle.fit cls = true)
    (hk : Cond.classLink own ik cls ∈ WT) (hini : Cond.initialized cls ∈ WT) (hstr : (own, is, text) ∈ kyS) (hat : ∀ w ∈ vx_atS own ic cls exN, w ∈ kyAt) (hgood : ∀ w ∈ Cond.classLink own ik cls :: Cond.initialized cls :: vx_atS own ic cls exN, vx_ot w = true)
    (d0 : decode cc pc = .ok (.new ik, 3)) (d3 : decode cc (pc + 3) = .ok (.dup, 1)) (d4 : decode cc (pc + 4) = .ok (.ldc is, 2)) (d6 : decode cc (pc + 6) = .ok (.invokespecial ic, 3)) (d9 : decode cc (pc + 9) = .ok (.athrow, 1))
    (hout : ∀ x ∈ (jC Γ).exceptionTable.toList, False) (hRf : 6 ≤ (jR Γ).frames) (hRl : (st.map fun v => v.category).sum + 82 ≤ (jR Γ).locals) (hRc : k + 1 ≤ (jR Γ).cells) (hRs : n + 6 ≤ (jR Γ).slots) (hc : k + 1 ≤ mc) (hs : n + 6 ≤ ms) : J Γ nL (HS κ A σ) k n pc lv st := by
  intro H locs ls hH hS hl
  rw [hQ]
  obtain ⟨sa, hsa⟩ := hY.2.2.1 _ hstr
  have ok := E.2.2.2.2.1
  have hat' : ∀ w ∈ vx_atS own ic cls exN, w.before (jV Γ) (jS Γ) = true := by
    intro w hw
    by_cases g : goodWord w = true
    · exact ok _ (ky_good w (hat w hw) g)
    · have hw2 : w ∈ kyW := List.mem_filter.mpr ⟨hat w hw, by simp [g]⟩
      have h6 := hY.2.2.2.2 w hw2
      rcases kyW_k w hw2 with ⟨C, T, rfl⟩ | ⟨x, rfl⟩
      · exact va_Nw.use rfl h6
      · exact va_Nw.use rfl h6
  refine vx_throwS (A := jA Γ) (names := exN) (text := text) E.1 E.2.1 hlt E.2.2.2.1 hfit (by decide +kernel) (ok _ hk) (ok _ hini) hsa hat' hgood hY.1 hY.2.1 hS (by rw [E.2.2.1]; exact hl.1) d0 d3 d4 d6 d9 (fun x hx => (hout x hx).elim) (show 2 + 3 < _ by omega) (show _ + (13 * (2 + 1) + 43) ≤ _ by omega) hRc hRs E.2.2.2.2.2.1 (fun t _ hz hq => ?_) hS.2.2 hc hs
  refine ⟨hfl, ⟨_, hH.grow hz hq⟩, ?_⟩
  rw [← hA]
  exact ⟨Nat.le_trans hS.1 hz, fun q h1 h2 => (hq q (Nat.lt_of_lt_of_le h1 hS.1)).trans (hS.2.1 q h1 h2)⟩
/-- thrown by a call, at its place -/
def JT (Γ : JC) (nL : Nat) (HP : Heap → Prop) (k n pc : Nat) (lv : List (Nat × Value)) (E : String) : Prop :=
  ∀ (H : Heap) (locs : List Loc) (ls : Array Slot) (q : Addr) (ce : Cell) (rest : List Value), HP H → va_S (jA Γ) (jS Γ).heap H locs → lv_has ls nL lv → H[q]? = some ce → ce.vm = .none → (jS Γ).vm.findClass E = some ce.cls →
    vx_W (jP Γ) (jL Γ) (jE Γ) (jR Γ) (jS Γ) (jM Γ) (jV Γ) (jB Γ) (jT Γ) (jC Γ) H locs k n (jQ Γ) (F0 (jM Γ) pc ls rest) q
theorem j_runX {a : Array Value} {fl : Option String} {o : Option Value} {rest : List Value} {A1 : Nat → Prop} {σ1 σ2 : HM} (E : JE Γ κ cc own nL ret) (hA1 : ∀ q, A1 q → jA Γ q)
    (hpost : ∀ H H1, HP H → HS κ A1 σ1 H1 → H.size ≤ H1.size → (∀ q, q < H.size → ¬ A1 q → H1[q]? = H[q]?) → HP1 H1) {HPX : Nat → Heap → Prop}
    (hpostX : ∀ H H1 n', HP H → HS κ A1 (σ2.1, n') H1 → H.size ≤ H1.size → (∀ q, q < H.size → ¬ A1 q → H1[q]? = H[q]?) → HPX n' H1)
    (hr : ∀ (H : Heap) (locs : List Loc) (ls : Array Slot), HP H → va_S (jA Γ) (jS Γ).heap H locs → lv_has ls nL lv → vx_Run (jP Γ) (jL Γ) (jE Γ) (jR Γ) (jS Γ) (jM Γ) (jV Γ) (jB Γ) (jT Γ) (jC Γ) H locs k n mc ms (F0 (jM Γ) pc ls st) rest (QF fl o (HS κ A1 σ1) A1 a) (XX κ A1 fl σ2) A1)
    (kk : fl = none → J Γ nL HP1 (k + mc) (n + ms) (pc + 3) lv (o.toList ++ rest)) (kx : ∀ (X : String) (n' : Nat), fl = some X → JT Γ nL (HPX n') (k + mc) (n + ms) pc lv X) : J Γ nL HP k n pc lv st := by
  intro H locs ls hH hS hl T hT X
  rcases hr H locs ls hH hS hl T hT X with ⟨v, st₀, t, T', L, h0, X', hL, e1, e2, ⟨hfl, hv, hp, hF⟩, stp⟩ | ⟨q, st₀, t, T', L, E9, ce, h0, X', hL, e1, e2, ⟨hfl, ⟨n', hp⟩, hF⟩, hce, hcv, hcl, stp⟩
  · cases hv
    obtain ⟨k1, k2, k3⟩ := vx_keep h0 e1 hS (fun q _ h => hA1 q h) hA1 hL hF
    obtain ⟨t2, a1, b1⟩ := kk hfl T'.heap (locs ++ L) ls (hpost H T'.heap hH (by rw [e1]; exact hp) k1 k2) k3 hl T' rfl X'
    exact ⟨t2, stp t2 a1, b1⟩
  · obtain ⟨k1, k2, k3⟩ := vx_keep h0 e1 hS (fun q _ h => hA1 q h) hA1 hL hF
    obtain ⟨t2, a1, b1⟩ := kx E9 n' hfl T'.heap (locs ++ L) ls q ce rest (hpostX H T'.heap n' hH (by rw [e1]; exact hp) k1 k2) k3 hl (by rw [e1]; exact hce) hcv hcl T' rfl X'
    exact ⟨t2, stp.trans a1, b1⟩
theorem jt_catch {X name : String} (E : JE Γ κ cc own nL ret) (pre : List ExceptionTableEntry) (x : ExceptionTableEntry) (suf : List ExceptionTableEntry) (hsplit : (jC Γ).exceptionTable.toList = pre ++ x :: suf)
    (hpass : ∀ z ∈ pre, covers z pc = false ∨ (z.catchType ≠ 0 ∧ ∃ nm : String, Cond.classLink own z.catchType nm ∈ WT ∧ va_Nc X nm (jS Γ))) (hx : covers x pc = true) (h0 : x.catchType ≠ 0)
    (hlink : Cond.classLink own x.catchType name ∈ WT) (hcast : va_Nw (.castable X name) (jS Γ)) (kk : ∀ q, J Γ nL HP k n x.handlerPc lv [.ref q]) : JT Γ nL HP k n pc lv X := by
  intro H locs ls q ce rest hH hS hl hce hcv hcl
  refine vx_catch E.2.2.2.1 pre x suf hsplit (fun z hz => ?_) hx h0 (E.2.2.2.2.1 _ hlink) (va_Nw.use rfl hcast) hce hcv hcl (kk q H locs ls hH hS hl)
  rcases hpass z hz with h | ⟨hz0, nm, h1, h2⟩
  · exact Or.inl h
  · exact Or.inr ⟨hz0, nm, E.2.2.2.2.1 _ h1, h2⟩
theorem j_startY {A1 : Nat → Prop} {P : Heap → Prop} (E : JE Γ κ cc own nL ret) (hY : KY (jA Γ) (jS Γ)) (hA1 : ∀ q, A1 q → jA Γ q) {H : Heap} {locs : List Loc} (hS : va_S (jA Γ) (jS Γ).heap H locs) (hp : P H) {As : List Value} : ∀ U : State, U.heap = H → (jS Γ).WarmedH U.vm → PY κ A1 As P As.toArray U :=
  fun U hU hW => ⟨j_start E hA1 hS hp U hU hW, KY_up (KY_go hY hS hU hW) hA1⟩
end JTHROW
