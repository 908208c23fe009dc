/-! THE CORE: a judgement J over W in which the heap is held by one map HS (address to object or array), blocks of plain instructions run by a function -/
def WT : List Cond := lw_tbl.filter goodWord
theorem wt_in {w : Cond} (h : w ∈ lw_tbl) (g : goodWord w = true) : w ∈ WT := List.mem_filter.mpr ⟨h, g⟩
theorem wt_good : ∀ w ∈ WT, (w.onTables && w.keeps) = true ∨ ∃ ty, w = .arrayClass ty := fun _ h => good_of_word (List.mem_filter.mp h).2
theorem wt_goodIn {y : MethodName} {b : ByteArray} {n : Nat} {r : Option FieldType} (h : Cond.code y b n r ∈ WT) : GoodIn WT (Cond.code y b n r :: WT) := by
  intro w hw
  rcases List.mem_cons.mp hw with rfl | hw
  · exact ⟨h, wt_good _ h⟩
  · exact ⟨hw, wt_good _ hw⟩
-- the classes and arrays of the tables: class ids, slots, the int array's class, the classes of the two arrays of references, the two tables' addresses
abbrev KP : Type := (Nat → ClassId) × (Nat → Nat → Nat) × ClassId × (Nat → ClassId) × Nat × Nat × Bool
abbrev kD (κ : KP) : va_G := (κ.1, κ.2.1)
abbrev kI (κ : KP) : ClassId := κ.2.2.1
abbrev kR (κ : KP) : Nat → ClassId := κ.2.2.2.1
abbrev kL (κ : KP) : Nat := κ.2.2.2.2.1
abbrev kG (κ : KP) : Nat := κ.2.2.2.2.2.1
/-- may cells be made -/
abbrev kF (κ : KP) : Bool := κ.2.2.2.2.2.2
abbrev rK0 : String := "OneBeatsBoth$Player"
abbrev rK1 : String := "OneBeatsBoth$Row"
abbrev rKt (t : Nat) : String := match t with
  | 0 => rK0
  | _ => rK1
abbrev kT (κ : KP) : List (ClassId × FieldType) := [(kI κ, .int), (kR κ 0, .object rK0), (kR κ 1, .object rK1)]
def tbL (j : Nat) : Int32 := ([0, 0, 1, 0, 1, 2, 0, 1, 2, 3, 0, 1, 2, 3, 4, 0, 1, 2, 3, 4, 5, 0, 1, 2, 3, 4, 5, 6] : List Int32).getD j 0
def tbG (j : Nat) : Int32 := ([1, 2, 2, 3, 3, 3, 4, 4, 4, 4, 5, 5, 5, 5, 5, 6, 6, 6, 6, 6, 6, 7, 7, 7, 7, 7, 7, 7] : List Int32).getD j 0
/-- words that aren't of the steady kinds, but stay all the same -/
def nwK (w : Cond) : Prop := (∃ a i b n d h, w = .fieldLinkNest a i b n d h) ∨ (∃ C T, w = .castable C T) ∨ ∃ C, w = .arrayOver (.object C)
theorem nws_k : ∀ w ∈ NWs, nwK w := by
  unfold NWs
  exact List.forall_mem_cons.mpr ⟨Or.inl ⟨_, _, _, _, _, _, rfl⟩, List.forall_mem_cons.mpr ⟨Or.inl ⟨_, _, _, _, _, _, rfl⟩, List.forall_mem_cons.mpr ⟨Or.inr (Or.inl ⟨_, _, rfl⟩), List.forall_mem_cons.mpr ⟨Or.inr (Or.inl ⟨_, _, rfl⟩), List.forall_mem_cons.mpr ⟨Or.inr (Or.inl ⟨_, _, rfl⟩), List.forall_mem_cons.mpr ⟨Or.inr (Or.inl ⟨_, _, rfl⟩), List.forall_mem_cons.mpr ⟨Or.inr (Or.inl ⟨_, _, rfl⟩), List.forall_mem_cons.mpr ⟨Or.inr (Or.inl ⟨_, _, rfl⟩), List.forall_mem_cons.mpr ⟨Or.inr (Or.inl ⟨_, _, rfl⟩), List.forall_mem_cons.mpr ⟨Or.inr (Or.inr ⟨_, rfl⟩), List.forall_mem_cons.mpr ⟨Or.inr (Or.inr ⟨_, rfl⟩), fun _ h => absurd h List.not_mem_nil⟩⟩⟩⟩⟩⟩⟩⟩⟩⟩⟩
theorem nw_warm {w : Cond} {s U : State} (hk : nwK w) (hW : s.WarmedH U.vm) (h : va_Nw w s) : va_Nw w U := by
  rcases hk with ⟨a, i, b, n, d, h', rfl⟩ | ⟨C, T, rfl⟩ | ⟨C, rfl⟩
  · exact va_Nw.warmF hW h
  · exact va_Nw.warmC hW h
  · exact va_AO.moved hW.alike h
theorem nw_same {w : Cond} {u U : State} (hk : nwK w) (he : u.vm = U.vm) (h : va_Nw w u) : va_Nw w U := by
  rcases hk with ⟨a, i, b, n, d, h', rfl⟩ | ⟨C, T, rfl⟩ | ⟨C, rfl⟩
  · exact va_Nw.same rfl he h
  · exact va_Nw.same rfl he h
  · exact va_AO.moved (by rw [he]; exact Vm.Alike.refl _) h
theorem nw_use {w : Cond} {A : Array Value} {U : State} (hk : nwK w) (h : va_Nw w U) : w.before A U = true := by
  rcases hk with ⟨a, i, b, n, d, h', rfl⟩ | ⟨C, T, rfl⟩ | ⟨C, rfl⟩
  · exact va_Nw.use rfl h
  · exact va_Nw.use rfl h
  · exact va_AO.use h
theorem nw_of {w : Cond} {A : Array Value} {U : State} (hk : nwK w) (h : w.before A U = true) : va_Nw w U := by
  rcases hk with ⟨a, i, b, n, d, h', rfl⟩ | ⟨C, T, rfl⟩ | ⟨C, rfl⟩
  · exact va_Nw.of rfl h
  · exact va_Nw.of rfl h
  · exact va_AO.of h
def KX (κ : KP) (A : Nat → Prop) (U : State) : Prop :=
  va_K (kD κ) vwCl (kT κ) U ∧ va_Z "OneBeatsBoth" "LESSER" "[I" (.ref (kL κ)) A U U.heap ∧ va_Z "OneBeatsBoth" "GREATER" "[I" (.ref (kG κ)) A U U.heap ∧
  va_T .int (kL κ) 28 (fun j => .int (tbL j)) A U U.heap ∧ va_T .int (kG κ) 28 (fun j => .int (tbG j)) A U U.heap ∧ ∀ w ∈ NWs, va_Nw w U
theorem KX_go {κ : KP} {A : Nat → Prop} {s U : State} {H : Heap} {locs : List Loc} (h : KX κ A s) (hS : va_S A s.heap H locs) (hU : U.heap = H) (hW : s.WarmedH U.vm) : KX κ A U := by
  obtain ⟨h1, h2, h3, h4, h5, h6⟩ := h
  have hq : ∀ a : Nat, a < s.heap.size → ¬ A a → U.heap[a]? = s.heap[a]? := by rw [hU]; exact hS.2.1
  exact ⟨va_K.moved hW.alike h1, (va_Z.moved hW.alike h2).kept hq, (va_Z.moved hW.alike h3).kept hq, (va_T.moved hW.alike h4).kept hq, (va_T.moved hW.alike h5).kept hq, fun w hw => nw_warm (nws_k w hw) hW (h6 w hw)⟩
theorem KX_up {κ : KP} {A B : Nat → Prop} {U : State} (h : KX κ A U) (hAB : ∀ q, B q → A q) : KX κ B U := by
  obtain ⟨h1, h2, h3, h4, h5, h6⟩ := h
  exact ⟨h1, h2.narrow hAB, h3.narrow hAB, h4.narrow hAB, h5.narrow hAB, h6⟩
/-- a method's start: arguments, heap, tables; what may be written is all that comes -/
def PP (κ : KP) (A : Nat → Prop) (av : List Value) (HP : Heap → Prop) : Array Value → State → Prop := fun v U => v = av.toArray ∧ HP U.heap ∧ KX κ A U
theorem PP_blind {κ : KP} {A : Nat → Prop} {av : List Value} {HP : Heap → Prop} : FrameBlind (PP κ A av HP) := by
  intro a U g mk h
  obtain ⟨h1, h2, ⟨k1, k2, k3, k4, k5, k6⟩⟩ := h
  have hal : U.vm.Alike (U.calling g mk a).vm := Vm.Alike.refl U.vm
  exact ⟨h1, h2, ⟨va_K.moved hal k1, va_Z.moved hal k2, va_Z.moved hal k3, va_T.moved hal k4, va_T.moved hal k5, fun w hw => nw_same (u := U) (nws_k w hw) rfl (k6 w hw)⟩⟩
def QQ (o : Option Value) (HP : Heap → Prop) (A : Nat → Prop) : Array Value → State → Outcome → State → Prop := fun _ st oc t => oc = .returned o ∧ HP t.heap ∧ va_F A st t
-- a method's fixed part
abbrev JC : Type := (Program × Launch × Jvm.Env × Room) × (State × MethodId × Array Value × List Frame) × (Method × Code) × ((Nat → Prop) × (State → Prop))
abbrev jP (Γ : JC) := Γ.1.1
abbrev jL (Γ : JC) := Γ.1.2.1
abbrev jE (Γ : JC) := Γ.1.2.2.1
abbrev jR (Γ : JC) := Γ.1.2.2.2
abbrev jS (Γ : JC) := Γ.2.1.1
abbrev jM (Γ : JC) := Γ.2.1.2.1
abbrev jV (Γ : JC) := Γ.2.1.2.2.1
abbrev jB (Γ : JC) := Γ.2.1.2.2.2
abbrev jT (Γ : JC) := Γ.2.2.1.1
abbrev jC (Γ : JC) := Γ.2.2.1.2
abbrev jA (Γ : JC) := Γ.2.2.2.1
abbrev jQ (Γ : JC) := Γ.2.2.2.2
def J (Γ : JC) (nL : Nat) (HP : Heap → Prop) (k n pc : Nat) (lv : List (Nat × Value)) (st : List Value) : Prop :=
  ∀ (H : Heap) (locs : List Loc) (ls : Array Slot), HP H → va_S (jA Γ) (jS Γ).heap H locs → lv_has ls nL lv → W (jP Γ) (jL Γ) (jE Γ) (jR Γ) (jS Γ) (jM Γ) (jV Γ) (jB Γ) (jT Γ) (jC Γ) H locs k n (jQ Γ) (F0 (jM Γ) pc ls st)
def JE (Γ : JC) (κ : KP) (cc : ByteArray) (own : String) (nL : Nat) (ret : Option FieldType) : Prop :=
  (jP Γ).tables.exec = Jvm.exec ∧ (jC Γ).code = cc ∧ (jC Γ).maxLocals = nL ∧ (jS Γ).vm.findClass own = some (jM Γ).cls ∧ (∀ w ∈ WT, w.before (jV Γ) (jS Γ) = true) ∧ (jT Γ).locks = false ∧ True ∧ KX κ (jA Γ) (jS Γ) ∧ (jT Γ).sig.returnType = ret
def JQ (Γ : JC) (o : Option Value) (HP : Heap → Prop) (k n : Nat) : Prop := jQ Γ = MQ (jB Γ) (QQ o HP (jA Γ)) (jV Γ) (jS Γ) k n (jA Γ)
theorem met_of {κ : KP} {A : Nat → Prop} {l : Launch} {y : MethodName} {own : String} {cc : ByteArray} {maxL : Nat} {ret : Option FieldType} {rm : Room} {av : List Value} {HP HP' : Heap → Prop} {o : Option Value} {mc ms : Nat} (hy : plainName y.cls = true) (ho : y.cls = own) (hav : (lg_sl av).length ≤ maxL)
    (body : ∀ Γ : JC, JE Γ κ cc own maxL ret → JQ Γ o HP' mc ms → jL Γ = l → jR Γ = rm → jA Γ = A → HP (jS Γ).heap → (y.name = "<init>" → (jT Γ).name = "<init>") → J Γ maxL HP 0 0 0 (lv_args 0 av) []) :
    Met l y (Cond.code y cc maxL ret :: WT) rm (PP κ A av HP) (QQ o HP' A) mc ms A := by
  subst ho
  refine Met.ofW (cc := cc) (maxL := maxL) (ret := ret) hy rfl ?_
  intro p e s m args below meth c s₁ B hml hv
  obtain ⟨rfl, hH, hK⟩ := hv
  have hts := atoms_spec (ws := Cond.code y cc maxL ret :: WT) B.pre
  have hown : s.vm.findClass y.cls = some m.cls := findClass_of_methodNamed B.named
  have E : JE ((p, l, e, (headSpec (Cond.code y cc maxL ret :: WT) rm).room), (s, m, av.toArray, below), (meth, c), (A, MQ below (QQ o HP' A) av.toArray s mc ms A)) κ cc y.cls maxL ret :=
    ⟨B.exec, B.bytes, hml, hown, fun w h => hts w (List.mem_cons_of_mem _ h), B.notSynchronized, trivial, hK, B.returns⟩
  have hin : y.name = "<init>" → meth.name = "<init>" := fun h => by rw [(name_of_methodNamed B.named B.method).1, h]
  have K := body _ E rfl rfl rfl rfl hH hin s.heap [] _ hH va_S.rf (lv_entry av hav)
  rw [lg_entry_eq]
  exact K
section JROWS
variable {Γ : JC} {κ : KP} {cc : ByteArray} {own : String} {nL : Nat} {ret : Option FieldType} {HP HP' : Heap → Prop} {k n pc tgt : Nat} {lv lv' : List (Nat × Value)} {st : List Value} {off : Int} {x y : Int32}
theorem j_imp (h : ∀ H, HP H → HP' H) (kk : J Γ nL HP' k n pc lv st) : J Γ nL HP k n pc lv st := fun H locs ls hH hS hl => kk H locs ls (h H hH) hS hl
theorem j_lv (ks : List Nat) (hs : lv_pick lv ks = lv') (kk : J Γ nL HP k n pc lv' st) : J Γ nL HP k n pc lv st := fun H locs ls hH hS hl => kk H locs ls hH hS (lv_sub hl ks hs)
theorem j_wid {k' n' : Nat} (h1 : k ≤ k') (h2 : n ≤ n') (kk : J Γ nL HP k' n' pc lv st) : J Γ nL HP k n pc lv st := fun H locs ls hH hS hl => W.widen h1 h2 (kk H locs ls hH hS hl)
theorem j_ex {α : Type} {P : α → Heap → Prop} (kk : ∀ a, J Γ nL (P a) k n pc lv st) : J Γ nL (fun H => ∃ a, P a H) k n pc lv st := fun H locs ls ⟨a, hH⟩ hS hl => kk a H locs ls hH hS hl
theorem j_pre {P : Prop} (h : ∀ H, HP H → P) (kk : P → J Γ nL HP k n pc lv st) : J Γ nL HP k n pc lv st := fun H locs ls hH hS hl => kk (h H hH) H locs ls hH hS hl
theorem j_goto (E : JE Γ κ cc own nL ret) (hd : decode cc pc = .ok (.goto off, 3)) (ht : (pc : Int) + off = (tgt : Int)) (kk : J Γ nL HP k n tgt lv st) : J Γ nL HP k n pc lv st :=
  fun H locs ls hH hS hl => lv_goto E.1 E.2.1 hd ht (kk H locs ls hH hS hl)
theorem j_if_eq (E : JE Γ κ cc own nL ret) (hd : decode cc pc = .ok (.ifCond .eq off, 3)) (ht : (pc : Int) + off = (tgt : Int)) (kt : x = 0 → J Γ nL HP k n tgt lv st) (kf : ¬ x = 0 → J Γ nL HP k n (pc + 3) lv st) : J Γ nL HP k n pc lv (.int x :: st) :=
  fun H locs ls hH hS hl => lv_if_eq E.1 E.2.1 hd ht (fun c => kt c H locs ls hH hS hl) (fun c => kf c H locs ls hH hS hl)
theorem j_if_ne (E : JE Γ κ cc own nL ret) (hd : decode cc pc = .ok (.ifCond .ne off, 3)) (ht : (pc : Int) + off = (tgt : Int)) (kt : ¬ x = 0 → J Γ nL HP k n tgt lv st) (kf : x = 0 → J Γ nL HP k n (pc + 3) lv st) : J Γ nL HP k n pc lv (.int x :: st) :=
  fun H locs ls hH hS hl => lv_if_ne E.1 E.2.1 hd ht (fun c => kt c H locs ls hH hS hl) (fun c => kf c H locs ls hH hS hl)
theorem j_if_lt (E : JE Γ κ cc own nL ret) (hd : decode cc pc = .ok (.ifCond .lt off, 3)) (ht : (pc : Int) + off = (tgt : Int)) (kt : x < 0 → J Γ nL HP k n tgt lv st) (kf : ¬ x < 0 → J Γ nL HP k n (pc + 3) lv st) : J Γ nL HP k n pc lv (.int x :: st) :=
  fun H locs ls hH hS hl => lv_if_lt E.1 E.2.1 hd ht (fun c => kt c H locs ls hH hS hl) (fun c => kf c H locs ls hH hS hl)
theorem j_if_ge (E : JE Γ κ cc own nL ret) (hd : decode cc pc = .ok (.ifCond .ge off, 3)) (ht : (pc : Int) + off = (tgt : Int)) (kt : 0 ≤ x → J Γ nL HP k n tgt lv st) (kf : ¬ 0 ≤ x → J Γ nL HP k n (pc + 3) lv st) : J Γ nL HP k n pc lv (.int x :: st) :=
  fun H locs ls hH hS hl => lv_if_ge E.1 E.2.1 hd ht (fun c => kt c H locs ls hH hS hl) (fun c => kf c H locs ls hH hS hl)
theorem j_if_gt (E : JE Γ κ cc own nL ret) (hd : decode cc pc = .ok (.ifCond .gt off, 3)) (ht : (pc : Int) + off = (tgt : Int)) (kt : 0 < x → J Γ nL HP k n tgt lv st) (kf : ¬ 0 < x → J Γ nL HP k n (pc + 3) lv st) : J Γ nL HP k n pc lv (.int x :: st) :=
  fun H locs ls hH hS hl => lv_if_gt E.1 E.2.1 hd ht (fun c => kt c H locs ls hH hS hl) (fun c => kf c H locs ls hH hS hl)
theorem j_if_le (E : JE Γ κ cc own nL ret) (hd : decode cc pc = .ok (.ifCond .le off, 3)) (ht : (pc : Int) + off = (tgt : Int)) (kt : x ≤ 0 → J Γ nL HP k n tgt lv st) (kf : ¬ x ≤ 0 → J Γ nL HP k n (pc + 3) lv st) : J Γ nL HP k n pc lv (.int x :: st) :=
  fun H locs ls hH hS hl => lv_if_le E.1 E.2.1 hd ht (fun c => kt c H locs ls hH hS hl) (fun c => kf c H locs ls hH hS hl)
theorem j_icmp_eq (E : JE Γ κ cc own nL ret) (hd : decode cc pc = .ok (.if_icmp .eq off, 3)) (ht : (pc : Int) + off = (tgt : Int)) (kt : x = y → J Γ nL HP k n tgt lv st) (kf : ¬ x = y → J Γ nL HP k n (pc + 3) lv st) : J Γ nL HP k n pc lv (.int y :: .int x :: st) :=
  fun H locs ls hH hS hl => lv_icmp_eq E.1 E.2.1 hd ht (fun c => kt c H locs ls hH hS hl) (fun c => kf c H locs ls hH hS hl)
theorem j_icmp_ne (E : JE Γ κ cc own nL ret) (hd : decode cc pc = .ok (.if_icmp .ne off, 3)) (ht : (pc : Int) + off = (tgt : Int)) (kt : ¬ x = y → J Γ nL HP k n tgt lv st) (kf : x = y → J Γ nL HP k n (pc + 3) lv st) : J Γ nL HP k n pc lv (.int y :: .int x :: st) :=
  fun H locs ls hH hS hl => lv_icmp_ne E.1 E.2.1 hd ht (fun c => kt c H locs ls hH hS hl) (fun c => kf c H locs ls hH hS hl)
theorem j_icmp_lt (E : JE Γ κ cc own nL ret) (hd : decode cc pc = .ok (.if_icmp .lt off, 3)) (ht : (pc : Int) + off = (tgt : Int)) (kt : x < y → J Γ nL HP k n tgt lv st) (kf : ¬ x < y → J Γ nL HP k n (pc + 3) lv st) : J Γ nL HP k n pc lv (.int y :: .int x :: st) :=
  fun H locs ls hH hS hl => lv_icmp_lt E.1 E.2.1 hd ht (fun c => kt c H locs ls hH hS hl) (fun c => kf c H locs ls hH hS hl)
theorem j_icmp_ge (E : JE Γ κ cc own nL ret) (hd : decode cc pc = .ok (.if_icmp .ge off, 3)) (ht : (pc : Int) + off = (tgt : Int)) (kt : y ≤ x → J Γ nL HP k n tgt lv st) (kf : ¬ y ≤ x → J Γ nL HP k n (pc + 3) lv st) : J Γ nL HP k n pc lv (.int y :: .int x :: st) :=
  fun H locs ls hH hS hl => lv_icmp_ge E.1 E.2.1 hd ht (fun c => kt c H locs ls hH hS hl) (fun c => kf c H locs ls hH hS hl)
theorem j_icmp_gt (E : JE Γ κ cc own nL ret) (hd : decode cc pc = .ok (.if_icmp .gt off, 3)) (ht : (pc : Int) + off = (tgt : Int)) (kt : y < x → J Γ nL HP k n tgt lv st) (kf : ¬ y < x → J Γ nL HP k n (pc + 3) lv st) : J Γ nL HP k n pc lv (.int y :: .int x :: st) :=
  fun H locs ls hH hS hl => lv_icmp_gt E.1 E.2.1 hd ht (fun c => kt c H locs ls hH hS hl) (fun c => kf c H locs ls hH hS hl)
theorem j_icmp_le (E : JE Γ κ cc own nL ret) (hd : decode cc pc = .ok (.if_icmp .le off, 3)) (ht : (pc : Int) + off = (tgt : Int)) (kt : x ≤ y → J Γ nL HP k n tgt lv st) (kf : ¬ x ≤ y → J Γ nL HP k n (pc + 3) lv st) : J Γ nL HP k n pc lv (.int y :: .int x :: st) :=
  fun H locs ls hH hS hl => lv_icmp_le E.1 E.2.1 hd ht (fun c => kt c H locs ls hH hS hl) (fun c => kf c H locs ls hH hS hl)
theorem j_null_y (E : JE Γ κ cc own nL ret) (hd : decode cc pc = .ok (.ifnull off, 3)) (ht : (pc : Int) + off = (tgt : Int)) (kk : J Γ nL HP k n tgt lv st) : J Γ nL HP k n pc lv (.null :: st) :=
  fun H locs ls hH hS hl => lv_ifnullN E.1 E.2.1 hd ht (kk H locs ls hH hS hl)
theorem j_null_n {a : Nat} (E : JE Γ κ cc own nL ret) (hd : decode cc pc = .ok (.ifnull off, 3)) (kk : J Γ nL HP k n (pc + 3) lv st) : J Γ nL HP k n pc lv (.ref a :: st) :=
  fun H locs ls hH hS hl => lv_ifnull E.1 E.2.1 hd (kk H locs ls hH hS hl)
theorem j_nonnull_y {a : Nat} (E : JE Γ κ cc own nL ret) (hd : decode cc pc = .ok (.ifnonnull off, 3)) (ht : (pc : Int) + off = (tgt : Int)) (kk : J Γ nL HP k n tgt lv st) : J Γ nL HP k n pc lv (.ref a :: st) :=
  fun H locs ls hH hS hl => lv_ifnonnull E.1 E.2.1 hd ht (kk H locs ls hH hS hl)
theorem j_nonnull_n (E : JE Γ κ cc own nL ret) (hd : decode cc pc = .ok (.ifnonnull off, 3)) (kk : J Γ nL HP k n (pc + 3) lv st) : J Γ nL HP k n pc lv (.null :: st) :=
  fun H locs ls hH hS hl => lv_ifnonnullN E.1 E.2.1 hd (kk H locs ls hH hS hl)
theorem j_irem (E : JE Γ κ cc own nL ret) (hd : decode cc pc = .ok (.irem, 1)) (h0 : ¬ y = 0) (kk : J Γ nL HP k n (pc + 1) lv (.int (x - x / y * y) :: st)) : J Γ nL HP k n pc lv (.int y :: .int x :: st) :=
  fun H locs ls hH hS hl => lv_irem E.1 E.2.1 hd h0 (kk H locs ls hH hS hl)
theorem j_idiv (E : JE Γ κ cc own nL ret) (hd : decode cc pc = .ok (.idiv, 1)) (h0 : ¬ y = 0) (kk : J Γ nL HP k n (pc + 1) lv (.int (x / y) :: st)) : J Γ nL HP k n pc lv (.int y :: .int x :: st) :=
  fun H locs ls hH hS hl => lv_idiv E.1 E.2.1 hd h0 (kk H locs ls hH hS hl)
theorem j_lrem {u v : Int64} (E : JE Γ κ cc own nL ret) (hd : decode cc pc = .ok (.lrem, 1)) (h0 : ¬ v = 0) (kk : J Γ nL HP k n (pc + 1) lv (.long (u - u / v * v) :: st)) : J Γ nL HP k n pc lv (.long v :: .long u :: st) :=
  fun H locs ls hH hS hl => lv_lrem E.1 E.2.1 hd h0 (kk H locs ls hH hS hl)
theorem j_ldiv {u v : Int64} (E : JE Γ κ cc own nL ret) (hd : decode cc pc = .ok (.ldiv, 1)) (h0 : ¬ v = 0) (kk : J Γ nL HP k n (pc + 1) lv (.long (u / v) :: st)) : J Γ nL HP k n pc lv (.long v :: .long u :: st) :=
  fun H locs ls hH hS hl => lv_ldiv E.1 E.2.1 hd h0 (kk H locs ls hH hS hl)
theorem j_ldc {i : Nat} (E : JE Γ κ cc own nL ret) (hd : decode cc pc = .ok (.ldc i, 2)) (hw : Cond.constant own i x ∈ WT) (kk : J Γ nL HP k n (pc + 2) lv (.int x :: st)) : J Γ nL HP k n pc lv st :=
  fun H locs ls hH hS hl => lv_ldc E.1 E.2.1 E.2.2.2.1 (E.2.2.2.2.1 _ hw) hd (kk H locs ls hH hS hl)
theorem j_ldcw {i : Nat} (E : JE Γ κ cc own nL ret) (hd : decode cc pc = .ok (.ldc_w i, 3)) (hw : Cond.constant own i x ∈ WT) (kk : J Γ nL HP k n (pc + 3) lv (.int x :: st)) : J Γ nL HP k n pc lv st :=
  fun H locs ls hH hS hl => lv_ldcw E.1 E.2.1 E.2.2.2.1 (E.2.2.2.2.1 _ hw) hd (kk H locs ls hH hS hl)
theorem j_ldc2 {i : Nat} {u : Int64} (E : JE Γ κ cc own nL ret) (hd : decode cc pc = .ok (.ldc2_w i, 3)) (hw : Cond.constantLong own i u ∈ WT) (kk : J Γ nL HP k n (pc + 3) lv (.long u :: st)) : J Γ nL HP k n pc lv st :=
  fun H locs ls hH hS hl => lv_ldc2 E.1 E.2.1 E.2.2.2.1 (E.2.2.2.2.1 _ hw) hd (kk H locs ls hH hS hl)
-- ends
theorem j_iret (E : JE Γ κ cc own nL (some .int)) (hQ : JQ Γ (some (.int x)) HP' k n) (hd : decode cc pc = .ok (.ireturn, 1)) (h : ∀ H, HP H → HP' H) : J Γ nL HP k n pc lv [.int x] := by
  intro H locs ls hH hS hl
  rw [hQ]
  exact W.iret E.1 E.2.1 E.2.2.2.2.2.2.2.2 (fun t ht _ => ⟨rfl, by rw [ht]; exact h H hH, hS.F ht⟩) hS.2.2 hd E.2.2.2.2.2.1
theorem j_zret (E : JE Γ κ cc own nL (some .boolean)) (hQ : JQ Γ (some (.int x)) HP' k n) (hb : narrow .boolean (.int x) = .int x) (hd : decode cc pc = .ok (.ireturn, 1)) (h : ∀ H, HP H → HP' H) : J Γ nL HP k n pc lv [.int x] := by
  intro H locs ls hH hS hl
  rw [hQ]
  exact W.zret E.1 E.2.1 E.2.2.2.2.2.2.2.2 hb (fun t ht _ => ⟨rfl, by rw [ht]; exact h H hH, hS.F ht⟩) hS.2.2 hd E.2.2.2.2.2.1
theorem j_lret {u : Int64} (E : JE Γ κ cc own nL (some .long)) (hQ : JQ Γ (some (.long u)) HP' k n) (hd : decode cc pc = .ok (.lreturn, 1)) (h : ∀ H, HP H → HP' H) : J Γ nL HP k n pc lv [.long u] := by
  intro H locs ls hH hS hl
  rw [hQ]
  exact W.lret E.1 E.2.1 E.2.2.2.2.2.2.2.2 (fun t ht _ => ⟨rfl, by rw [ht]; exact h H hH, hS.F ht⟩) hS.2.2 hd E.2.2.2.2.2.1
theorem j_vret (E : JE Γ κ cc own nL none) (hQ : JQ Γ none HP' k n) (hd : decode cc pc = .ok (.return_, 1)) (h : ∀ H, HP H → HP' H) : J Γ nL HP k n pc lv [] := by
  intro H locs ls hH hS hl
  rw [hQ]
  exact W.vret E.1 E.2.1 E.2.2.2.2.2.2.2.2 (fun t ht _ => ⟨rfl, by rw [ht]; exact h H hH, hS.F ht⟩) hS.2.2 hd E.2.2.2.2.2.1
theorem j_aret {v : Value} {rt : FieldType} (E : JE Γ κ cc own nL (some rt)) (hQ : JQ Γ (some v) HP' k n) (hrt : (∃ n, rt = .object n) ∨ ∃ t, rt = .array t) (hv : v = .null ∨ ∃ a, v = .ref a) (hd : decode cc pc = .ok (.areturn, 1)) (h : ∀ H, HP H → HP' H) : J Γ nL HP k n pc lv [v] := by
  intro H locs ls hH hS hl
  rw [hQ]
  exact W.aret E.1 E.2.1 E.2.2.2.2.2.2.2.2 hrt hv (fun t ht _ => ⟨rfl, by rw [ht]; exact h H hH, hS.F ht⟩) hS.2.2 hd E.2.2.2.2.2.1
theorem j_tin {dflt lo hi : Int} {offs : Array Int} {len : Nat} {c : Int32} (E : JE Γ κ cc own nL ret) (hd : decode cc pc = .ok (.tableswitch dflt lo hi offs, len)) (hx : x = c) (h1 : ¬ c.toInt < lo) (h2 : ¬ hi < c.toInt) (ho : offs[(c.toInt - lo).toNat]? = some off) (ht : (pc : Int) + off = (tgt : Int)) (kk : J Γ nL HP k n tgt lv st) : J Γ nL HP k n pc lv (.int x :: st) := by
  subst hx
  exact fun H locs ls hH hS hl => lv_tableIn E.1 E.2.1 hd h1 h2 ho ht (kk H locs ls hH hS hl)
theorem j_tout {dflt lo hi : Int} {offs : Array Int} {len : Nat} (E : JE Γ κ cc own nL ret) (hd : decode cc pc = .ok (.tableswitch dflt lo hi offs, len)) (h : x.toInt < lo ∨ hi < x.toInt) (ht : (pc : Int) + dflt = (tgt : Int)) (kk : J Γ nL HP k n tgt lv st) : J Γ nL HP k n pc lv (.int x :: st) :=
  fun H locs ls hH hS hl => lv_tableOut E.1 E.2.1 hd h ht (kk H locs ls hH hS hl)
theorem j_lkp {dflt : Int} {ps : Array (Int × Int)} {len : Nat} (E : JE Γ κ cc own nL ret) (hd : decode cc pc = .ok (.lookupswitch dflt ps, len)) (hp : (ps.toList.zip (ps.toList.drop 1)).all (fun (a, next) => a.1 < next.1) = true) (ho : Op.lookupswitch.offset ps.toList dflt x.toInt = off) (ht : (pc : Int) + off = (tgt : Int)) (kk : J Γ nL HP k n tgt lv st) : J Γ nL HP k n pc lv (.int x :: st) :=
  fun H locs ls hH hS hl => lv_lookup E.1 E.2.1 hd hp ho ht (kk H locs ls hH hS hl)
theorem kx_L (E : JE Γ κ cc own nL ret) : va_Z "OneBeatsBoth" "LESSER" "[I" (.ref (kL κ)) (jA Γ) (jS Γ) (jS Γ).heap := E.2.2.2.2.2.2.2.1.2.1
theorem kx_G (E : JE Γ κ cc own nL ret) : va_Z "OneBeatsBoth" "GREATER" "[I" (.ref (kG κ)) (jA Γ) (jS Γ) (jS Γ).heap := E.2.2.2.2.2.2.2.1.2.2.1
theorem kx_TL (E : JE Γ κ cc own nL ret) : va_T .int (kL κ) 28 (fun j => .int (tbL j)) (jA Γ) (jS Γ) (jS Γ).heap := E.2.2.2.2.2.2.2.1.2.2.2.1
theorem kx_TG (E : JE Γ κ cc own nL ret) : va_T .int (kG κ) 28 (fun j => .int (tbG j)) (jA Γ) (jS Γ) (jS Γ).heap := E.2.2.2.2.2.2.2.1.2.2.2.2.1
theorem j_nw (E : JE Γ κ cc own nL ret) {w : Cond} (h : w ∈ NWs) : w.before (jV Γ) (jS Γ) = true := nw_use (nws_k w h) (E.2.2.2.2.2.2.2.1.2.2.2.2.2 w h)
end JROWS
-- the shapes of the functions, and how a value says which way was gone
def obd {α β : Type} (x : Option α) (f : α → Option β) : Option β := match x with
  | none => none
  | some v => f v
def ogd {α : Type} (c : Bool) (a : Option α) : Option α := match c with
  | true => a
  | false => none
def osm {α β γ : Type} (x : α ⊕ β) (f : α → Option γ) (g : β → Option γ) : Option γ := match x with
  | .inl a => f a
  | .inr b => g b
def onl {α : Type} (v : Value) (a : Option α) (f : Nat → Option α) : Option α := match v with
  | .null => a
  | .ref b => f b
  | _ => none
def orf {α : Type} (v : Value) (f : Nat → Option α) : Option α := match v with
  | .ref b => f b
  | _ => none
def onz {α : Type} (y : Int32) (a : Option α) : Option α := if y = 0 then none else a
def onzl {α : Type} (y : Int64) (a : Option α) : Option α := if y = 0 then none else a
def isB (v : Int32) : Bool := decide (v = 0) || decide (v = 1)
def isR (v : Value) : Bool := match v with
  | .null => true
  | .ref _ => true
  | _ => false
theorem g_inj {α : Type} {a b : α} (h : some a = some b) : b = a := (Option.some.inj h).symm
theorem g_t {α : Type} {c : Prop} [Decidable c] {a b : α} {r : α} (h : (if c then a else b) = r) (hc : c) : a = r := by rw [if_pos hc] at h; exact h
theorem g_f {α : Type} {c : Prop} [Decidable c] {a b : α} {r : α} (h : (if c then a else b) = r) (hc : ¬ c) : b = r := by rw [if_neg hc] at h; exact h
theorem obd_at {α β : Type} {x : Option α} {f : α → Option β} {r : β} (h : obd x f = some r) : ∃ v, x = some v ∧ f v = some r := by
  cases x with
  | none => cases h
  | some v => exact ⟨v, rfl, h⟩
theorem ogd_at {α : Type} {c : Bool} {a : Option α} {r : α} (h : ogd c a = some r) : c = true ∧ a = some r := by
  cases c with
  | true => exact ⟨rfl, h⟩
  | false => cases h
theorem onl_at {α : Type} {v : Value} {a : Option α} {f : Nat → Option α} {r : α} (h : onl v a f = some r) : (v = .null ∧ a = some r) ∨ ∃ b, v = .ref b ∧ f b = some r := by
  unfold onl at h
  split at h
  · exact Or.inl ⟨rfl, h⟩
  · exact Or.inr ⟨_, rfl, h⟩
  · cases h
theorem orf_at {α : Type} {v : Value} {f : Nat → Option α} {r : α} (h : orf v f = some r) : ∃ b, v = .ref b ∧ f b = some r := by
  unfold orf at h
  split at h
  · exact ⟨_, rfl, h⟩
  · cases h
theorem onz_at {α : Type} {y : Int32} {a : Option α} {r : α} (h : onz y a = some r) : ¬ y = 0 ∧ a = some r := by
  unfold onz at h
  split at h
  · cases h
  · rename_i hc; exact ⟨hc, h⟩
theorem onzl_at {α : Type} {y : Int64} {a : Option α} {r : α} (h : onzl y a = some r) : ¬ y = 0 ∧ a = some r := by
  unfold onzl at h
  split at h
  · cases h
  · rename_i hc; exact ⟨hc, h⟩
theorem nb_1 : narrow .boolean (.int (Int32.ofInt 1)) = .int (Int32.ofInt 1) := rfl
theorem nb_0 : narrow .boolean (.int (Int32.ofInt 0)) = .int (Int32.ofInt 0) := rfl
theorem fb_1 : fits .boolean (.int (Int32.ofInt 1)) = true := by decide +kernel
theorem fb_0 : fits .boolean (.int (Int32.ofInt 0)) = true := by decide +kernel
theorem isB_n {v : Int32} (h : isB v = true) : narrow .boolean (.int v) = .int v := by
  unfold isB at h
  rw [Bool.or_eq_true, decide_eq_true_eq, decide_eq_true_eq] at h
  rcases h with rfl | rfl <;> rfl
theorem isR_n {v : Value} (h : isR v = true) : v = .null ∨ ∃ a, v = .ref a := by
  unfold isR at h
  split at h
  · exact Or.inl rfl
  · exact Or.inr ⟨_, rfl⟩
  · cases h
/-- a loop: its step goes on, or comes to its end -/
def iter {V R : Type} (step : V → Option (V ⊕ R)) : Nat → V → Option R
  | 0, _ => none
  | n + 1, v => match step v with
    | none => none
    | some (.inl w) => iter step n w
    | some (.inr r) => some r
theorem j_iter {V R : Type} {step : V → Option (V ⊕ R)} {P : V → Prop} {G : R → Prop} (hs : ∀ w q, step w = some q → (∀ w', q = .inl w' → P w') → (∀ o, q = .inr o → G o) → P w) : ∀ (fu : Nat) (w : V) (o : R), iter step fu w = some o → G o → P w
  | 0, _, _, h, _ => by cases h
  | fu + 1, w, o, h, hG => by
    unfold iter at h
    cases hq : step w with
    | none => rw [hq] at h; cases h
    | some q =>
      rw [hq] at h
      cases q with
      | inl w1 => exact hs w _ hq (fun w' e => by cases e; exact j_iter hs fu w1 o h hG) (fun o' e => by cases e)
      | inr r => exact hs w _ hq (fun w' e => by cases e) (fun o' e => by cases e; cases h; exact hG)
def FU : Nat := 1000000
