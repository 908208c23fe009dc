/-! FAILURES: what throws and what catches -/
theorem fg_RX7_11 : FG RX7 11 sP 0 := ⟨"OneBeatsBoth$Priest", "figure", "I", m_85, (List.forall_mem_cons.mpr ⟨⟨RX0, TX0, 1, rfl, by decide, rfl, rfl, ux_0, Or.inr m_86⟩, (List.forall_mem_cons.mpr ⟨⟨RX1, TX1, 1, rfl, by decide, rfl, rfl, ux_1, Or.inr m_86⟩, (List.forall_mem_cons.mpr ⟨⟨RX3, TX3, 1, rfl, by decide, rfl, rfl, ux_3, Or.inr m_86⟩, (List.forall_mem_cons.mpr ⟨⟨RX4, TX4, 1, rfl, by decide, rfl, rfl, ux_4, Or.inr m_86⟩, (List.forall_mem_cons.mpr ⟨⟨RX5, TX5, 1, rfl, by decide, rfl, rfl, ux_5, Or.inr m_86⟩, (List.forall_mem_cons.mpr ⟨⟨RX6, TX6, 1, rfl, by decide, rfl, rfl, ux_6, Or.inr m_86⟩, (List.forall_mem_cons.mpr ⟨⟨RX7, TX7, 1, rfl, by decide, rfl, rfl, ux_7, Or.inr m_86⟩, (List.forall_mem_cons.mpr ⟨⟨RX9, TX9, 1, rfl, by decide, rfl, rfl, ux_9, Or.inr m_86⟩, (fun _ h => absurd h List.not_mem_nil)⟩)⟩)⟩)⟩)⟩)⟩)⟩)⟩)⟩
theorem ky_good2 {own cls : String} {ik ic : Nat} (h : (Cond.classLink own ik cls :: Cond.initialized cls :: vx_atS own ic cls exN).all vx_ot = true) : ∀ w ∈ Cond.classLink own ik cls :: Cond.initialized cls :: vx_atS own ic cls exN, vx_ot w = true := fun w hw => List.all_eq_true.mp h w hw
/-- a failure of a figure -/
def fl_of (y : Int32) (E : String) : Option String := if y = 0 then none else some E
theorem fl_0 {y : Int32} {E : String} (h : y = 0) : fl_of y E = none := by unfold fl_of; rw [if_pos h]
theorem fl_1 {y : Int32} {E : String} (h : ¬ y = 0) : fl_of y E = some E := by unfold fl_of; rw [if_neg h]
theorem b_c6_fail_0_1 : bdec cX6_fail 0 [.aload_n 0] = true := by decide +kernel
theorem d_c6_fail_1 : decode cX6_fail 1 = .ok (.getfield 7, 3) := by decide +kernel
theorem d_c6_fail_4 : decode cX6_fail 4 = .ok (.ifCond .eq 13, 3) := by decide +kernel
theorem d_c6_fail_7 : decode cX6_fail 7 = .ok (.new 13, 3) := by decide +kernel
theorem d_c6_fail_10 : decode cX6_fail 10 = .ok (.dup, 1) := by decide +kernel
theorem d_c6_fail_11 : decode cX6_fail 11 = .ok (.ldc 15, 2) := by decide +kernel
theorem d_c6_fail_13 : decode cX6_fail 13 = .ok (.invokespecial 17, 3) := by decide +kernel
theorem d_c6_fail_16 : decode cX6_fail 16 = .ok (.athrow, 1) := by decide +kernel
theorem d_c6_fail_17 : decode cX6_fail 17 = .ok (.return_, 1) := by decide +kernel
set_option maxRecDepth 100000 in
set_option maxHeartbeats 4000000 in
theorem c6_fail (l : Launch) (hlt : l.stackTraces = false) (κ : KP) (A : Nat → Prop) (s0 : HM) (a0 : Nat) {y : Int32} (hF : hfi s0 sP 0 a0 = some y) : vx_Met l yX6_fail (Cond.code yX6_fail cX6_fail 1 none :: WT) (rmL 6 1 6) (PY κ A [.ref a0] (HS κ A s0)) (QF (fl_of y sISE) none (HS κ A s0) A) (XX κ A (fl_of y sISE) s0) 1 6 A := by
  refine mx_of (own := RX6) (by decide) rfl (Nat.le_of_ble_eq_true rfl) ?_
  intro Γ E hQ hL hR hA hH hY htab
  show J Γ 1 (HS κ A s0) 0 0 0 [(0, .ref a0)] []
  refine j_blk (pc' := 1) (lv' := [(0, .ref a0)]) (st' := [.ref a0]) E b_c6_fail_0_1 rfl ?_
  refine j_getI E fg_RX6_7 d_c6_fail_1 hF ?_
  refine j_if_eq (tgt := 17) E d_c6_fail_4 (by decide) (fun h0 => ?_) (fun h0 => ?_)
  · exact jx_vret E hQ (fun t ht hFt => ⟨fl_0 h0, rfl, ht, by rw [← hA]; exact hFt⟩) d_c6_fail_17 (by decide) (by decide)
  · exact j_throwS (cls := sISE) (text := _) (ik := 13) (is := 15) (ic := 17) (fl := fl_of y sISE) E (by rw [hA]; exact hY) hQ hA (by rw [hL]; exact hlt) (fl_1 h0) (by decide +kernel) m_768 m_62 (by decide +kernel : (RX6, 15, "a failure") ∈ kyS) (fun w hw => List.mem_append_right _ (List.mem_append_right _ (List.mem_append_left _ hw))) (ky_good2 (by decide +kernel)) d_c6_fail_7 d_c6_fail_10 d_c6_fail_11 d_c6_fail_13 d_c6_fail_16 htab (by rw [hR]; decide) (by rw [hR]; decide) (by rw [hR]; decide) (by rw [hR]; decide) (by decide) (by decide)
theorem b_c3_fail_0_1 : bdec cX3_fail 0 [.aload_n 0] = true := by decide +kernel
theorem d_c3_fail_1 : decode cX3_fail 1 = .ok (.getfield 7, 3) := by decide +kernel
theorem d_c3_fail_4 : decode cX3_fail 4 = .ok (.ifCond .eq 13, 3) := by decide +kernel
theorem d_c3_fail_7 : decode cX3_fail 7 = .ok (.new 17, 3) := by decide +kernel
theorem d_c3_fail_10 : decode cX3_fail 10 = .ok (.dup, 1) := by decide +kernel
theorem d_c3_fail_11 : decode cX3_fail 11 = .ok (.ldc 19, 2) := by decide +kernel
theorem d_c3_fail_13 : decode cX3_fail 13 = .ok (.invokespecial 21, 3) := by decide +kernel
theorem d_c3_fail_16 : decode cX3_fail 16 = .ok (.athrow, 1) := by decide +kernel
theorem d_c3_fail_17 : decode cX3_fail 17 = .ok (.return_, 1) := by decide +kernel
set_option maxRecDepth 100000 in
set_option maxHeartbeats 4000000 in
theorem c3_fail (l : Launch) (hlt : l.stackTraces = false) (κ : KP) (A : Nat → Prop) (s0 : HM) (a0 : Nat) {y : Int32} (hF : hfi s0 sP 0 a0 = some y) : vx_Met l yX3_fail (Cond.code yX3_fail cX3_fail 1 none :: WT) (rmL 6 1 6) (PY κ A [.ref a0] (HS κ A s0)) (QF (fl_of y sIAE) none (HS κ A s0) A) (XX κ A (fl_of y sIAE) s0) 1 6 A := by
  refine mx_of (own := RX3) (by decide) rfl (Nat.le_of_ble_eq_true rfl) ?_
  intro Γ E hQ hL hR hA hH hY htab
  show J Γ 1 (HS κ A s0) 0 0 0 [(0, .ref a0)] []
  refine j_blk (pc' := 1) (lv' := [(0, .ref a0)]) (st' := [.ref a0]) E b_c3_fail_0_1 rfl ?_
  refine j_getI E fg_RX3_7 d_c3_fail_1 hF ?_
  refine j_if_eq (tgt := 17) E d_c3_fail_4 (by decide) (fun h0 => ?_) (fun h0 => ?_)
  · exact jx_vret E hQ (fun t ht hFt => ⟨fl_0 h0, rfl, ht, by rw [← hA]; exact hFt⟩) d_c3_fail_17 (by decide) (by decide)
  · exact j_throwS (cls := sIAE) (text := _) (ik := 17) (is := 19) (ic := 21) (fl := fl_of y sIAE) E (by rw [hA]; exact hY) hQ hA (by rw [hL]; exact hlt) (fl_1 h0) (by decide +kernel) m_675 m_61 (by decide +kernel : (RX3, 19, "a novice's failure") ∈ kyS) (fun w hw => List.mem_append_right _ (List.mem_append_right _ (List.mem_append_right _ (List.mem_append_left _ hw)))) (ky_good2 (by decide +kernel)) d_c3_fail_7 d_c3_fail_10 d_c3_fail_11 d_c3_fail_13 d_c3_fail_16 htab (by rw [hR]; decide) (by rw [hR]; decide) (by rw [hR]; decide) (by rw [hR]; decide) (by decide) (by decide)
theorem b_c7_fail_0_1 : bdec cX7_fail 0 [.aload_n 0] = true := by decide +kernel
theorem d_c7_fail_1 : decode cX7_fail 1 = .ok (.getfield 11, 3) := by decide +kernel
theorem d_c7_fail_4 : decode cX7_fail 4 = .ok (.ifCond .eq 13, 3) := by decide +kernel
theorem d_c7_fail_7 : decode cX7_fail 7 = .ok (.new 17, 3) := by decide +kernel
theorem d_c7_fail_10 : decode cX7_fail 10 = .ok (.dup, 1) := by decide +kernel
theorem d_c7_fail_11 : decode cX7_fail 11 = .ok (.ldc 19, 2) := by decide +kernel
theorem d_c7_fail_13 : decode cX7_fail 13 = .ok (.invokespecial 21, 3) := by decide +kernel
theorem d_c7_fail_16 : decode cX7_fail 16 = .ok (.athrow, 1) := by decide +kernel
theorem d_c7_fail_17 : decode cX7_fail 17 = .ok (.return_, 1) := by decide +kernel
set_option maxRecDepth 100000 in
set_option maxHeartbeats 4000000 in
theorem c7_fail (l : Launch) (hlt : l.stackTraces = false) (κ : KP) (A : Nat → Prop) (s0 : HM) (a0 : Nat) {y : Int32} (hF : hfi s0 sP 0 a0 = some y) : vx_Met l yX7_fail (Cond.code yX7_fail cX7_fail 1 none :: WT) (rmL 6 1 6) (PY κ A [.ref a0] (HS κ A s0)) (QF (fl_of y sUOE) none (HS κ A s0) A) (XX κ A (fl_of y sUOE) s0) 1 6 A := by
  refine mx_of (own := RX7) (by decide) rfl (Nat.le_of_ble_eq_true rfl) ?_
  intro Γ E hQ hL hR hA hH hY htab
  show J Γ 1 (HS κ A s0) 0 0 0 [(0, .ref a0)] []
  refine j_blk (pc' := 1) (lv' := [(0, .ref a0)]) (st' := [.ref a0]) E b_c7_fail_0_1 rfl ?_
  refine j_getI E fg_RX7_11 d_c7_fail_1 hF ?_
  refine j_if_eq (tgt := 17) E d_c7_fail_4 (by decide) (fun h0 => ?_) (fun h0 => ?_)
  · exact jx_vret E hQ (fun t ht hFt => ⟨fl_0 h0, rfl, ht, by rw [← hA]; exact hFt⟩) d_c7_fail_17 (by decide) (by decide)
  · exact j_throwS (cls := sUOE) (text := _) (ik := 17) (is := 19) (ic := 21) (fl := fl_of y sUOE) E (by rw [hA]; exact hY) hQ hA (by rw [hL]; exact hlt) (fl_1 h0) (by decide +kernel) m_750 m_64 (by decide +kernel : (RX7, 19, "a priest's failure") ∈ kyS) (fun w hw => List.mem_append_right _ (List.mem_append_right _ (List.mem_append_right _ (List.mem_append_right _ hw)))) (ky_good2 (by decide +kernel)) d_c7_fail_7 d_c7_fail_10 d_c7_fail_11 d_c7_fail_13 d_c7_fail_16 htab (by rw [hR]; decide) (by rw [hR]; decide) (by rw [hR]; decide) (by rw [hR]; decide) (by decide) (by decide)
theorem d_c5_fail_0 : decode cX5_fail 0 = .ok (.return_, 1) := by decide +kernel
theorem c5_fail (l : Launch) (κ : KP) (A : Nat → Prop) (s0 : HM) (a0 : Nat) : vx_Met l yX5_fail (Cond.code yX5_fail cX5_fail 1 none :: WT) (rmL 6 1 6) (PY κ A [.ref a0] (HS κ A s0)) (QF none none (HS κ A s0) A) (XX κ A none s0) 1 6 A := by
  refine mx_of (own := RX5) (by decide) rfl (Nat.le_of_ble_eq_true rfl) ?_
  intro Γ E hQ hL hR hA hH hY htab
  show J Γ 1 (HS κ A s0) 0 0 0 [(0, .ref a0)] []
  exact jx_vret E hQ (fun t ht hFt => ⟨rfl, rfl, ht, by rw [← hA]; exact hFt⟩) d_c5_fail_0 (by decide) (by decide)
def v_fail (s : HM) (a : Nat) : Option (Option String) := match hcls s a with
  | some 0 => obd (hfi s sP 0 a) (fun y => some (fl_of y sISE))
  | some 1 => obd (hfi s sP 0 a) (fun y => some (fl_of y sISE))
  | some 3 => obd (hfi s sP 0 a) (fun y => some (fl_of y sIAE))
  | some 4 => obd (hfi s sP 0 a) (fun y => some (fl_of y sISE))
  | some 5 => some none
  | some 6 => obd (hfi s sP 0 a) (fun y => some (fl_of y sISE))
  | some 7 => obd (hfi s sP 0 a) (fun y => some (fl_of y sUOE))
  | some 9 => obd (hfi s sP 0 a) (fun y => some (fl_of y sISE))
  | _ => none
theorem wv_RX10_262_0 : CU RX10 262 RX0 "OneBeatsBoth$Player" yX6_fail yX6_fail cX6_fail 1 0 none := ⟨m_767, m_46, m_666, m_667, m_670, m_669, m_667, ⟨_, _, _, m_767⟩, by decide +kernel⟩
theorem wv_RX10_262_1 : CU RX10 262 RX1 "OneBeatsBoth$Player" yX6_fail yX6_fail cX6_fail 1 0 none := ⟨m_767, m_46, m_666, m_667, m_671, m_669, m_667, ⟨_, _, _, m_767⟩, by decide +kernel⟩
theorem wv_RX10_262_3 : CU RX10 262 RX3 "OneBeatsBoth$Player" yX6_fail yX3_fail cX3_fail 1 0 none := ⟨m_674, m_53, m_666, m_673, m_672, m_669, m_667, ⟨_, _, _, m_767⟩, by decide +kernel⟩
theorem wv_RX10_262_4 : CU RX10 262 RX4 "OneBeatsBoth$Player" yX6_fail yX6_fail cX6_fail 1 0 none := ⟨m_767, m_46, m_666, m_667, m_743, m_669, m_667, ⟨_, _, _, m_767⟩, by decide +kernel⟩
theorem wv_RX10_262_5 : CU RX10 262 RX5 "OneBeatsBoth$Player" yX6_fail yX5_fail cX5_fail 1 0 none := ⟨m_746, m_50, m_666, m_745, m_744, m_669, m_667, ⟨_, _, _, m_767⟩, by decide +kernel⟩
theorem wv_RX10_262_7 : CU RX10 262 RX7 "OneBeatsBoth$Player" yX6_fail yX7_fail cX7_fail 1 0 none := ⟨m_749, m_54, m_666, m_748, m_747, m_669, m_667, ⟨_, _, _, m_767⟩, by decide +kernel⟩
theorem wv_RX10_262_9 : CU RX10 262 RX9 "OneBeatsBoth$Player" yX6_fail yX6_fail cX6_fail 1 0 none := ⟨m_767, m_46, m_666, m_667, m_766, m_669, m_667, ⟨_, _, _, m_767⟩, by decide +kernel⟩
theorem wv_RX10_262_6 : CV RX10 262 RX6 yX6_fail cX6_fail 1 0 none := ⟨m_767, m_46, m_666, m_667, m_668, by decide +kernel⟩
section JFAIL
variable {Γ : JC} {κ : KP} {cc : ByteArray} {own : String} {nL : Nat} {ret : Option FieldType} {A : Nat → Prop} {s : HM} {k n pc b : Nat} {lv : List (Nat × Value)} {rest : List Value} {D C S : Nat} {fl : Option String}
theorem jx_cu {x y : MethodName} {bytes : ByteArray} {maxL N d idx mc ms : Nat} {ret' : Option FieldType} {K owner : String} {As : List Value} {o : Option Value} (E : JE Γ κ cc own nL ret) (hY : KY (jA Γ) (jS Γ)) (w : CU own idx K owner x y bytes maxL N ret') (hR : (rmL d mc ms).frames + 1 ≤ (jR Γ).frames ∧ 8 + (maxL + 11) + (rmL d mc ms).locals ≤ (jR Γ).locals) (hAA : ∀ q, A q → jA Γ q)
    (hM : vx_Met (jL Γ) y (Cond.code y bytes maxL ret' :: WT) (rmL d mc ms) (PY κ A (.ref b :: As) (HS κ A s)) (QF fl o (HS κ A s) A) (XX κ A fl s) mc ms A)
    (hrv : ∀ H, HS κ A s H → ∃ cell : Cell, H[b]? = some cell ∧ cell.vm.isStatics = false ∧ (jS Γ).vm.findClass K = some cell.cls) (hn : As.length = N)
    (hcat : (rest.map fun v => v.category).sum ≤ 8) (hd : decode cc pc = .ok (.invokevirtual idx, 3)) (hkn : k + mc ≤ (jR Γ).cells ∧ n + ms ≤ (jR Γ).slots)
    (kk : fl = none → J Γ nL (HS κ A s) (k + mc) (n + ms) (pc + 3) lv (o.toList ++ rest)) (kx : ∀ (X : String) (n' : Nat), fl = some X → JT Γ nL (HS κ A (s.1, n')) (k + mc) (n + ms) pc lv X) : J Γ nL (HS κ A s) k n pc lv (As.reverse ++ .ref b :: rest) := by
  refine j_runX (a := (Value.ref b :: As).toArray) (σ1 := s) (σ2 := s) (HPX := fun n' => HS κ A (s.1, n')) E hAA (fun _ _ _ h _ _ => h) (fun _ _ _ _ h _ _ => h) (fun H locs ls hH hS hl => ?_) kk kx
  obtain ⟨w1, w2, w3, w4, w5, w6, w7, ⟨b0, m0, r0, w8⟩, w9, w10, w11⟩ := w
  have ok := E.2.2.2.2.1
  have cu : va_CU (jR Γ) (jS Γ) (jV Γ) own K owner idx x y bytes maxL ret' (Cond.code y bytes maxL ret' :: WT) (rmL d mc ms) mc ms N :=
    ⟨⟨rfl, rfl, hR.1, hR.2, pay_in ok (wt_goodIn w1), List.mem_cons_self⟩, ok _ w1, ok _ w2, ⟨w9, w10⟩, fun sig h => by rw [h] at w11; exact (Option.some.inj w11).symm, ok _ w3, ok _ w6, va_Decl.of (ok _ w7) (ok _ w8), ok _ w5, ok _ w4⟩
  exact vx_runU (As := As) (rest := rest) (j_fix E) hM cu ⟨PY_blind, hrv H hH, j_startY E hY hAA hS hH⟩ rfl hn hl.1 rfl (lv_room hcat) hd hkn
theorem jx_cv {y : MethodName} {bytes : ByteArray} {maxL N d idx mc ms : Nat} {ret' : Option FieldType} {K : String} {As : List Value} {o : Option Value} (E : JE Γ κ cc own nL ret) (hY : KY (jA Γ) (jS Γ)) (w : CV own idx K y bytes maxL N ret') (hR : (rmL d mc ms).frames + 1 ≤ (jR Γ).frames ∧ 8 + (maxL + 11) + (rmL d mc ms).locals ≤ (jR Γ).locals) (hAA : ∀ q, A q → jA Γ q)
    (hM : vx_Met (jL Γ) y (Cond.code y bytes maxL ret' :: WT) (rmL d mc ms) (PY κ A (.ref b :: As) (HS κ A s)) (QF fl o (HS κ A s) A) (XX κ A fl s) mc ms A)
    (hrv : ∀ H, HS κ A s H → ∃ cell : Cell, H[b]? = some cell ∧ cell.vm.isStatics = false ∧ (jS Γ).vm.findClass K = some cell.cls) (hn : As.length = N)
    {HP HP1 : Heap → Prop} {HPX : Nat → Heap → Prop} (hpre : ∀ H, HP H → HS κ A s H) (hpost : ∀ H H1, HP H → HS κ A s H1 → H.size ≤ H1.size → (∀ q, q < H.size → ¬ A q → H1[q]? = H[q]?) → HP1 H1)
    (hpostX : ∀ H H1 n', HP H → HS κ A (s.1, n') H1 → H.size ≤ H1.size → (∀ q, q < H.size → ¬ A q → H1[q]? = H[q]?) → HPX n' H1)
    (hcat : (rest.map fun v => v.category).sum ≤ 8) (hd : decode cc pc = .ok (.invokevirtual idx, 3)) (hkn : k + mc ≤ (jR Γ).cells ∧ n + ms ≤ (jR Γ).slots)
    (kk : fl = none → J Γ nL HP1 (k + mc) (n + ms) (pc + 3) lv (o.toList ++ rest)) (kx : ∀ (X : String) (n' : Nat), fl = some X → JT Γ nL (HPX n') (k + mc) (n + ms) pc lv X) : J Γ nL HP k n pc lv (As.reverse ++ .ref b :: rest) := by
  refine j_runX (a := (Value.ref b :: As).toArray) (σ1 := s) (σ2 := s) (HPX := HPX) E hAA hpost hpostX (fun H locs ls hH hS hl => ?_) kk kx
  exact vx_runV (As := As) (rest := rest) (j_fix E) hM ⟨j_cwords E hR w.1 w.2.1 w.2.2.1 w.2.2.2.2.2, E.2.2.2.2.1 _ w.2.2.2.1, E.2.2.2.2.1 _ w.2.2.2.2.1⟩ ⟨PY_blind, hrv H (hpre H hH), j_startY E hY hAA hS (hpre H hH)⟩ rfl hn hl.1 rfl (lv_room hcat) hd hkn
theorem jx_fail (E : JE Γ κ cc RX10 nL ret) (hY : KY (jA Γ) (jS Γ)) (hR : jR Γ = rmL D C S) (hD : 6 < D) (hlt : (jL Γ).stackTraces = false) (hAA : ∀ q, A q → jA Γ q) (hF : v_fail s b = some fl) (hd : decode cc pc = .ok (.invokevirtual 262, 3)) (hcat : (rest.map fun v => v.category).sum ≤ 8) (hkn : k + 1 ≤ (jR Γ).cells ∧ n + 6 ≤ (jR Γ).slots)
    (kk : fl = none → J Γ nL (HS κ A s) (k + 1) (n + 6) (pc + 3) lv rest) (kx : ∀ (X : String) (n' : Nat), fl = some X → JT Γ nL (HS κ A (s.1, n')) (k + 1) (n + 6) pc lv X) : J Γ nL (HS κ A s) k n pc lv (.ref b :: rest) := by
  have hroom : ∀ (d mL : Nat) {mc ms : Nat}, d < D → mL ≤ 21 → (rmL d mc ms).frames + 1 ≤ (jR Γ).frames ∧ 8 + (mL + 11) + (rmL d mc ms).locals ≤ (jR Γ).locals := fun d mL mc ms h1 h2 => by rw [hR]; exact rmL_le h1 h2
  unfold v_fail at hF
  split at hF
  · rename_i hc
    obtain ⟨y, hy, hF⟩ := obd_at hF
    cases hF
    exact jx_cu (As := []) (o := none) E hY wv_RX10_262_0 (hroom 6 1 hD (by decide)) hAA (c6_fail _ hlt κ A s b hy) (fun _ h => j_recv E h hc rfl) rfl hcat hd hkn kk kx
  · rename_i hc
    obtain ⟨y, hy, hF⟩ := obd_at hF
    cases hF
    exact jx_cu (As := []) (o := none) E hY wv_RX10_262_1 (hroom 6 1 hD (by decide)) hAA (c6_fail _ hlt κ A s b hy) (fun _ h => j_recv E h hc rfl) rfl hcat hd hkn kk kx
  · rename_i hc
    obtain ⟨y, hy, hF⟩ := obd_at hF
    cases hF
    exact jx_cu (As := []) (o := none) E hY wv_RX10_262_3 (hroom 6 1 hD (by decide)) hAA (c3_fail _ hlt κ A s b hy) (fun _ h => j_recv E h hc rfl) rfl hcat hd hkn kk kx
  · rename_i hc
    obtain ⟨y, hy, hF⟩ := obd_at hF
    cases hF
    exact jx_cu (As := []) (o := none) E hY wv_RX10_262_4 (hroom 6 1 hD (by decide)) hAA (c6_fail _ hlt κ A s b hy) (fun _ h => j_recv E h hc rfl) rfl hcat hd hkn kk kx
  · rename_i hc
    cases hF
    exact jx_cu (As := []) (o := none) E hY wv_RX10_262_5 (hroom 6 1 hD (by decide)) hAA (c5_fail _ κ A s b) (fun _ h => j_recv E h hc rfl) rfl hcat hd hkn kk kx
  · rename_i hc
    obtain ⟨y, hy, hF⟩ := obd_at hF
    cases hF
    exact jx_cv (As := []) (o := none) E hY wv_RX10_262_6 (hroom 6 1 hD (by decide)) hAA (c6_fail _ hlt κ A s b hy) (fun _ h => j_recv E h hc rfl) rfl (fun _ h => h) (fun _ _ _ h _ _ => h) (fun _ _ _ _ h _ _ => h) hcat hd hkn kk kx
  · rename_i hc
    obtain ⟨y, hy, hF⟩ := obd_at hF
    cases hF
    exact jx_cu (As := []) (o := none) E hY wv_RX10_262_7 (hroom 6 1 hD (by decide)) hAA (c7_fail _ hlt κ A s b hy) (fun _ h => j_recv E h hc rfl) rfl hcat hd hkn kk kx
  · rename_i hc
    obtain ⟨y, hy, hF⟩ := obd_at hF
    cases hF
    exact jx_cu (As := []) (o := none) E hY wv_RX10_262_9 (hroom 6 1 hD (by decide)) hAA (c6_fail _ hlt κ A s b hy) (fun _ h => j_recv E h hc rfl) rfl hcat hd hkn kk kx
  · cases hF
theorem jx_iret {HP : Heap → Prop} {x : Int32} {mc ms : Nat} {Qc : Array Value → State → Outcome → State → Prop} {XC : String → State → State → Prop} (E : JE Γ κ cc own nL (some .int)) (hQ : JX Γ Qc XC mc ms) (hq : ∀ t : State, HP t.heap → va_F (jA Γ) (jS Γ) t → Qc (jV Γ) (jS Γ) (.returned (some (.int x))) t) (hd : decode cc pc = .ok (.ireturn, 1)) (hk : k ≤ mc) (hn : n ≤ ms) : J Γ nL HP k n pc lv [.int x] := by
  intro H locs ls hH hS hl
  rw [hQ]
  refine W.widen hk hn (vx_ret ?_)
  exact W.iret E.1 E.2.1 E.2.2.2.2.2.2.2.2 (fun t ht _ => hq t (by rw [ht]; exact hH) (hS.F ht)) hS.2.2 hd E.2.2.2.2.2.1
end JFAIL
/-- a method with a table, EX: what else is known of its start -/
theorem mx_ofH {κ : KP} {A : Nat → Prop} {l : Launch} {y : MethodName} {own : String} {cc : ByteArray} {maxL : Nat} {ret : Option FieldType} {hh : List (Nat × Nat × Nat × Nat)} {rm : Room} {av : List Value} {HP : Heap → Prop} {EX : State → Prop} {Qc : Array Value → State → Outcome → State → Prop} {XC : String → State → State → Prop} {mc ms : Nat} (hy : plainName y.cls = true) (ho : y.cls = own) (hav : (lg_sl av).length ≤ maxL)
    (body : ∀ Γ : JC, JE Γ κ cc own maxL ret → JX Γ Qc XC mc ms → jL Γ = l → jR Γ = rm → jA Γ = A → HP (jS Γ).heap → KY A (jS Γ) → EX (jS Γ) → (jC Γ).exceptionTable.toList = tableOf hh → J Γ maxL HP 0 0 0 (lv_args 0 av) []) :
    vx_Met l y (Cond.codeWith y cc maxL ret hh :: WT) rm (fun v U => PY κ A av HP v U ∧ EX U) Qc XC mc ms A := by
  subst ho
  refine vx_ofWH (cc := cc) (maxL := maxL) (ret := ret) (hh := hh) hy rfl ?_
  intro p e s m args below meth c s₁ B hml hv
  obtain ⟨⟨⟨rfl, hH, hK⟩, hY⟩, hX⟩ := hv
  have hts := atoms_spec (ws := Cond.codeWith y cc maxL ret hh :: WT) B.pre
  have hown : s.vm.findClass y.cls = some m.cls := findClass_of_methodNamed B.named
  have htab := vx_table (x := y) B (hts _ List.mem_cons_self)
  have E : JE ((p, l, e, (headSpec (Cond.codeWith y cc maxL ret hh :: WT) rm).room), (s, m, av.toArray, below), (meth, c), (A, vx_MQ below Qc XC av.toArray s mc ms A)) κ cc y.cls maxL ret :=
    ⟨B.exec, B.bytes, hml, hown, fun w h => hts w (List.mem_cons_of_mem _ h), B.notSynchronized, trivial, hK, B.returns⟩
  have K := body _ E rfl rfl rfl rfl hH hY hX htab s.heap [] _ hH va_S.rf (lv_entry av hav)
  rw [lg_entry_eq]
  exact K
/-- which way a failure goes -/
def oft {α : Type} (fl : Option String) (x u a s : Option α) : Option α := match fl with
  | none => x
  | some X => if X = sUOE then u else if X = sIAE then a else if X = sISE then s else none
theorem oft_at {α : Type} {fl : Option String} {x u a s : Option α} {r : α} (h : oft fl x u a s = some r) : (fl = none ∧ x = some r) ∨ (fl = some sUOE ∧ u = some r) ∨ (fl = some sIAE ∧ a = some r) ∨ (fl = some sISE ∧ s = some r) := by
  unfold oft at h
  split at h
  · exact Or.inl ⟨rfl, h⟩
  · split at h
    · rename_i hx; subst hx; exact Or.inr (Or.inl ⟨rfl, h⟩)
    · split at h
      · rename_i hx; subst hx; exact Or.inr (Or.inr (Or.inl ⟨rfl, h⟩))
      · split at h
        · rename_i hx; subst hx; exact Or.inr (Or.inr (Or.inr ⟨rfl, h⟩))
        · cases h
/-! element, toss, and the law's element -/
theorem b_c10_element_0 : bdec cX10_element 0 [.iload_n 1] = true := by decide +kernel
theorem d_c10_element_1 : decode cX10_element 1 = .ok (.invokestatic 211, 3) := by decide +kernel
theorem d_c10_element_4 : decode cX10_element 4 = .ok (.ifCond .ne 13, 3) := by decide +kernel
theorem d_c10_element_7 : decode cX10_element 7 = .ok (.new 235, 3) := by decide +kernel
theorem d_c10_element_10 : decode cX10_element 10 = .ok (.dup, 1) := by decide +kernel
theorem d_c10_element_11 : decode cX10_element 11 = .ok (.ldc 237, 2) := by decide +kernel
theorem d_c10_element_13 : decode cX10_element 13 = .ok (.invokespecial 239, 3) := by decide +kernel
theorem d_c10_element_16 : decode cX10_element 16 = .ok (.athrow, 1) := by decide +kernel
theorem b_c10_element_17 : bdec cX10_element 17 [.aload_n 0, .iload_n 1] = true := by decide +kernel
theorem d_c10_element_19 : decode cX10_element 19 = .ok (.invokevirtual 217, 3) := by decide +kernel
theorem b_c10_element_22 : bdec cX10_element 22 [.astore_n 3, .aload_n 3] = true := by decide +kernel
theorem d_c10_element_24 : decode cX10_element 24 = .ok (.ifnull 12, 3) := by decide +kernel
theorem b_c10_element_27 : bdec cX10_element 27 [.aload_n 3, .iload_n 2, .iconst 1] = true := by decide +kernel
theorem d_c10_element_30 : decode cX10_element 30 = .ok (.invokevirtual 229, 3) := by decide +kernel
theorem d_c10_element_33 : decode cX10_element 33 = .ok (.ifCond .ne 13, 3) := by decide +kernel
theorem d_c10_element_36 : decode cX10_element 36 = .ok (.new 242, 3) := by decide +kernel
theorem d_c10_element_39 : decode cX10_element 39 = .ok (.dup, 1) := by decide +kernel
theorem d_c10_element_40 : decode cX10_element 40 = .ok (.ldc 244, 2) := by decide +kernel
theorem d_c10_element_42 : decode cX10_element 42 = .ok (.invokespecial 246, 3) := by decide +kernel
theorem d_c10_element_45 : decode cX10_element 45 = .ok (.athrow, 1) := by decide +kernel
theorem b_c10_element_46 : bdec cX10_element 46 [.aload_n 3, .iload_n 2] = true := by decide +kernel
theorem d_c10_element_48 : decode cX10_element 48 = .ok (.invokevirtual 71, 3) := by decide +kernel
theorem b_c10_element_51 : bdec cX10_element 51 [.i2l] = true := by decide +kernel
theorem d_c10_element_52 : decode cX10_element 52 = .ok (.lreturn, 1) := by decide +kernel
def f10_element (s0 : HM) (a0 : Nat) (p1 p2 : Int32) : Option (Option String × Int64) := obd (f10_isShelf p1) (fun v1 => if ¬ v1 = 0 then (ocl s0 a0 10 (obd (f10_rowOn s0 a0 p1) (fun v2 => onl v2 (some (some sISE, 0)) (fun b => ocl s0 b 8 (obd (f8_hasPlaces s0 b p2 (Int32.ofInt 1)) (fun v3 => if ¬ v3 = 0 then (obd (f8_at s0 b p2) (fun v4 => some (none, v4.toInt64))) else some (some sISE, 0))))))) else some (some sIAE, 0))
set_option maxRecDepth 100000 in
set_option maxHeartbeats 4000000 in
theorem c10_element (l : Launch) (hlt : l.stackTraces = false) (κ : KP) (A : Nat → Prop) (s0 : HM) (a0 : Nat) (p1 p2 : Int32) {fl : Option String} {u : Int64} (hF : f10_element s0 a0 p1 p2 = some (fl, u)) : vx_Met l yX10_element (Cond.code yX10_element cX10_element 4 (some .long) :: WT) (rmL 6 1 6) (PY κ A [.ref a0, .int p1, .int p2] (HS κ A s0)) (QF fl (some (.long u)) (HS κ A s0) A) (XX κ A fl s0) 1 6 A := by
  refine mx_of (own := RX10) (by decide) rfl (Nat.le_of_ble_eq_true rfl) ?_
  intro Γ E hQ hL hR hA hH hY htab
  have hAA : ∀ q, A q → jA Γ q := fun q h => by rw [hA]; exact h
  have hroom : ∀ (d mL : Nat) {mc ms : Nat}, d < 6 → mL ≤ 21 → (rmL d mc ms).frames + 1 ≤ (jR Γ).frames ∧ 8 + (mL + 11) + (rmL d mc ms).locals ≤ (jR Γ).locals := fun d mL mc ms h1 h2 => by rw [hR]; exact rmL_le h1 h2
  show J Γ 4 (HS κ A s0) 0 0 0 [(0, .ref a0), (1, .int p1), (2, .int p2)] []
  unfold f10_element at hF
  obtain ⟨v1, e1, hF⟩ := obd_at hF
  refine j_blk (pc' := 1) (lv' := [(0, .ref a0), (1, .int p1), (2, .int p2)]) (st' := [.int p1]) E b_c10_element_0 rfl ?_
  refine j_calls [.int p1] [] E w_RX10_211 (hroom 0 1 (by decide) (by decide)) hAA (c10_isShelf _ κ A (HS κ A s0) p1 e1) (fun _ h => h) (fun _ _ _ h _ _ => h) rfl rfl (Nat.le_of_ble_eq_true rfl) d_c10_element_1 ⟨Nat.zero_le _, Nat.zero_le _⟩ ?_
  refine j_if_ne (tgt := 17) E d_c10_element_4 (by decide) (fun h0 => ?_) (fun h0 => ?_)
  · rw [if_pos h0] at hF
    obtain ⟨hc, hF⟩ := ocl_at hF
    obtain ⟨v2, e2, hF⟩ := obd_at hF
    refine j_blk (pc' := 19) (lv' := [(0, .ref a0), (1, .int p1), (2, .int p2)]) (st' := [.int p1, .ref a0]) E b_c10_element_17 rfl ?_
    refine j_callv [.int p1] [] E w_RX10_217 (hroom 1 2 (by decide) (by decide)) hAA (c10_rowOn _ κ A _ _ _ e2) (fun _ h => h) (fun _ _ _ h _ _ => h) (fun _ h => j_recv E h hc rfl) rfl rfl (Nat.le_of_ble_eq_true rfl) d_c10_element_19 ⟨Nat.zero_le _, Nat.zero_le _⟩ ?_
    rcases onl_at hF with ⟨rfl, hF⟩ | ⟨b, rfl, hF⟩
    · cases hF
      refine j_blk (pc' := 24) (lv' := [(3, .null), (0, .ref a0), (1, .int p1), (2, .int p2)]) (st' := [.null]) E b_c10_element_22 rfl ?_
      refine j_null_y (tgt := 36) E d_c10_element_24 (by decide) ?_
      exact j_throwS (cls := sISE) (text := _) (ik := 242) (is := 244) (ic := 246) (fl := some sISE) E (by rw [hA]; exact hY) hQ hA (by rw [hL]; exact hlt) rfl (by decide +kernel) m_665 m_62 (by decide +kernel : (RX10, 244, "no row, or no such place") ∈ kyS) (fun w hw => List.mem_append_right _ (List.mem_append_left _ hw)) (ky_good2 (by decide +kernel)) d_c10_element_36 d_c10_element_39 d_c10_element_40 d_c10_element_42 d_c10_element_45 htab (by rw [hR]; decide) (by rw [hR]; decide) (by rw [hR]; decide) (by rw [hR]; decide) (by decide) (by decide)
    · refine j_blk (pc' := 24) (lv' := [(3, .ref b), (0, .ref a0), (1, .int p1), (2, .int p2)]) (st' := [.ref b]) E b_c10_element_22 rfl ?_
      refine j_null_n E d_c10_element_24 ?_
      refine j_blk (pc' := 30) (lv' := [(3, .ref b), (0, .ref a0), (1, .int p1), (2, .int p2)]) (st' := [.int (Int32.ofInt 1), .int p2, .ref b]) E b_c10_element_27 rfl ?_
      obtain ⟨hc8, hF⟩ := ocl_at hF
      obtain ⟨v3, e3, hF⟩ := obd_at hF
      refine j_callv [.int p2, .int (Int32.ofInt 1)] [] E w_RX10_229 (hroom 0 3 (by decide) (by decide)) hAA (c8_hasPlaces _ κ A _ _ _ _ e3) (fun _ h => h) (fun _ _ _ h _ _ => h) (fun _ h => j_recv E h hc8 rfl) rfl rfl (Nat.le_of_ble_eq_true rfl) d_c10_element_30 ⟨Nat.zero_le _, Nat.zero_le _⟩ ?_
      refine j_if_ne (tgt := 46) E d_c10_element_33 (by decide) (fun h3 => ?_) (fun h3 => ?_)
      · rw [if_pos h3] at hF
        obtain ⟨v4, e4, hF⟩ := obd_at hF
        cases hF
        refine j_blk (pc' := 48) (lv' := [(3, .ref b), (0, .ref a0), (1, .int p1), (2, .int p2)]) (st' := [.int p2, .ref b]) E b_c10_element_46 rfl ?_
        refine j_callv [.int p2] [] E w_RX10_71 (hroom 1 2 (by decide) (by decide)) hAA (c8_at _ κ A _ _ _ e4) (fun _ h => h) (fun _ _ _ h _ _ => h) (fun _ h => j_recv E h hc8 rfl) rfl rfl (Nat.le_of_ble_eq_true rfl) d_c10_element_48 ⟨Nat.zero_le _, Nat.zero_le _⟩ ?_
        refine j_blk (pc' := 52) (lv' := [(3, .ref b), (0, .ref a0), (1, .int p1), (2, .int p2)]) (st' := [.long v4.toInt64]) E b_c10_element_51 rfl ?_
        exact jx_lret E hQ (fun t ht hFt => ⟨rfl, rfl, ht, by rw [← hA]; exact hFt⟩) d_c10_element_52 (by decide) (by decide)
      · rw [if_neg (fun h => h h3)] at hF
        cases hF
        exact j_throwS (cls := sISE) (text := _) (ik := 242) (is := 244) (ic := 246) (fl := some sISE) E (by rw [hA]; exact hY) hQ hA (by rw [hL]; exact hlt) rfl (by decide +kernel) m_665 m_62 (by decide +kernel : (RX10, 244, "no row, or no such place") ∈ kyS) (fun w hw => List.mem_append_right _ (List.mem_append_left _ hw)) (ky_good2 (by decide +kernel)) d_c10_element_36 d_c10_element_39 d_c10_element_40 d_c10_element_42 d_c10_element_45 htab (by rw [hR]; decide) (by rw [hR]; decide) (by rw [hR]; decide) (by rw [hR]; decide) (by decide) (by decide)
  · rw [if_neg (fun h => h h0)] at hF
    cases hF
    exact j_throwS (cls := sIAE) (text := _) (ik := 235) (is := 237) (ic := 239) (fl := some sIAE) E (by rw [hA]; exact hY) hQ hA (by rw [hL]; exact hlt) rfl (by decide +kernel) m_664 m_61 (by decide +kernel : (RX10, 237, "no such shelf") ∈ kyS) (fun w hw => List.mem_append_left _ hw) (ky_good2 (by decide +kernel)) d_c10_element_7 d_c10_element_10 d_c10_element_11 d_c10_element_13 d_c10_element_16 htab (by rw [hR]; decide) (by rw [hR]; decide) (by rw [hR]; decide) (by rw [hR]; decide) (by decide) (by decide)
theorem b_c10_toss_0 : bdec cX10_toss 0 [.aload_n 0, .iload_n 1] = true := by decide +kernel
theorem d_c10_toss_2 : decode cX10_toss 2 = .ok (.invokevirtual 107, 3) := by decide +kernel
theorem b_c10_toss_5 : bdec cX10_toss 5 [.astore_n 2, .aload_n 2] = true := by decide +kernel
theorem d_c10_toss_7 : decode cX10_toss 7 = .ok (.ifnonnull 9, 3) := by decide +kernel
theorem b_c10_toss_10 : bdec cX10_toss 10 [.aload_n 0, .iload_n 1] = true := by decide +kernel
theorem d_c10_toss_12 : decode cX10_toss 12 = .ok (.invokevirtual 55, 3) := by decide +kernel
theorem d_c10_toss_15 : decode cX10_toss 15 = .ok (.ireturn, 1) := by decide +kernel
theorem b_c10_toss_16 : bdec cX10_toss 16 [.aload_n 2] = true := by decide +kernel
theorem d_c10_toss_17 : decode cX10_toss 17 = .ok (.invokevirtual 262, 3) := by decide +kernel
theorem d_c10_toss_20 : decode cX10_toss 20 = .ok (.goto 28, 3) := by decide +kernel
theorem b_c10_toss_23 : bdec cX10_toss 23 [.astore_n 3, .sipush 200, .aload_n 2] = true := by decide +kernel
theorem d_c10_toss_28 : decode cX10_toss 28 = .ok (.invokevirtual 104, 3) := by decide +kernel
theorem b_c10_toss_31 : bdec cX10_toss 31 [.iadd] = true := by decide +kernel
theorem d_c10_toss_32 : decode cX10_toss 32 = .ok (.ireturn, 1) := by decide +kernel
theorem b_c10_toss_33 : bdec cX10_toss 33 [.astore_n 3, .bipush 100, .aload_n 2] = true := by decide +kernel
theorem d_c10_toss_37 : decode cX10_toss 37 = .ok (.getfield 91, 3) := by decide +kernel
theorem b_c10_toss_40 : bdec cX10_toss 40 [.iadd] = true := by decide +kernel
theorem d_c10_toss_41 : decode cX10_toss 41 = .ok (.ireturn, 1) := by decide +kernel
theorem b_c10_toss_42 : bdec cX10_toss 42 [.astore_n 3, .aload_n 2] = true := by decide +kernel
theorem d_c10_toss_44 : decode cX10_toss 44 = .ok (.getfield 91, 3) := by decide +kernel
theorem d_c10_toss_47 : decode cX10_toss 47 = .ok (.ireturn, 1) := by decide +kernel
theorem b_c10_toss_48 : bdec cX10_toss 48 [.bipush (-15)] = true := by decide +kernel
theorem d_c10_toss_50 : decode cX10_toss 50 = .ok (.ireturn, 1) := by decide +kernel
def tossT : List (Nat × Nat × Nat × Nat) := [(16, 20, 23, 265), (16, 20, 33, 235), (16, 20, 42, 242)]
theorem m_662 : Cond.codeWith yX10_toss cX10_toss 4 (some .int) tossT ∈ WT := wt_in (List.mem_of_getElem? (i := 662) (by decide +kernel)) (by decide +kernel)
def f10_toss (s0 : HM) (a0 : Nat) (p1 : Int32) : Option (Int32) := ocl s0 a0 10 (obd (f10_personOn s0 a0 p1) (fun v2 => onl v2 (obd (f10_whyNotOn s0 a0 p1) (fun v => some v)) (fun b => obd (v_fail s0 b) (fun fl => oft fl (some ((Int8.ofInt (-15)).toInt32)) (obd (v_cost s0 b) (fun v => some ((Int16.ofInt 200).toInt32 + v))) (obd (hfi s0 sP 0 b) (fun v => some ((Int8.ofInt 100).toInt32 + v))) (obd (hfi s0 sP 0 b) (fun v => some v))))))
def HSn (κ : KP) (A : Nat → Prop) (s : HM) : Heap → Prop := fun H => ∃ n, HS κ A (s.1, n) H
theorem ky_nc {A : Nat → Prop} {U : State} (h : KY A U) {X N : String} (hq : (X, N) ∈ kyN) : va_Nc X N U := h.2.2.2.1 _ hq
theorem ky_ca {A : Nat → Prop} {U : State} (h : KY A U) {w : Cond} (hq : w ∈ kyW) : va_Nw w U := h.2.2.2.2 _ hq
set_option maxRecDepth 100000 in
set_option maxHeartbeats 4000000 in
theorem c10_toss (l : Launch) (hlt : l.stackTraces = false) (κ : KP) (A : Nat → Prop) (s0 : HM) (a0 : Nat) (p1 : Int32) {res : Int32} (hF : f10_toss s0 a0 p1 = some res) : vx_Met l yX10_toss (Cond.codeWith yX10_toss cX10_toss 4 (some .int) tossT :: WT) (rmL 7 1 6) (fun v U => PY κ A [.ref a0, .int p1] (HS κ A s0) v U ∧ True) (QF none (some (.int res)) (HSn κ A s0) A) (XX κ A none s0) 1 6 A := by
  refine mx_ofH (own := RX10) (EX := fun _ => True) (by decide) rfl (Nat.le_of_ble_eq_true rfl) ?_
  intro Γ E hQ hL hR hA hH hY _ htab
  have hAA : ∀ q, A q → jA Γ q := fun q h => by rw [hA]; exact h
  have hroom : ∀ (d mL : Nat) {mc ms : Nat}, d < 7 → mL ≤ 21 → (rmL d mc ms).frames + 1 ≤ (jR Γ).frames ∧ 8 + (mL + 11) + (rmL d mc ms).locals ≤ (jR Γ).locals := fun d mL mc ms h1 h2 => by rw [hR]; exact rmL_le h1 h2
  show J Γ 4 (HS κ A s0) 0 0 0 [(0, .ref a0), (1, .int p1)] []
  unfold f10_toss at hF
  obtain ⟨hc, hF⟩ := ocl_at hF
  obtain ⟨v2, e2, hF⟩ := obd_at hF
  refine j_blk (pc' := 2) (lv' := [(0, .ref a0), (1, .int p1)]) (st' := [.int p1, .ref a0]) E b_c10_toss_0 rfl ?_
  refine j_callv [.int p1] [] E w_RX10_107 (hroom 1 2 (by decide) (by decide)) hAA (c10_personOn _ κ A _ _ _ e2) (fun _ h => h) (fun _ _ _ h _ _ => h) (fun _ h => j_recv E h hc rfl) rfl rfl (Nat.le_of_ble_eq_true rfl) d_c10_toss_2 ⟨Nat.zero_le _, Nat.zero_le _⟩ ?_
  rcases onl_at hF with ⟨rfl, hF⟩ | ⟨b, rfl, hF⟩
  · obtain ⟨v5, e5, hF⟩ := obd_at hF
    cases hF
    refine j_blk (pc' := 7) (lv' := [(2, .null), (0, .ref a0), (1, .int p1)]) (st' := [.null]) E b_c10_toss_5 rfl ?_
    refine j_nonnull_n E d_c10_toss_7 ?_
    refine j_blk (pc' := 12) (lv' := [(2, .null), (0, .ref a0), (1, .int p1)]) (st' := [.int p1, .ref a0]) E b_c10_toss_10 rfl ?_
    refine j_callv [.int p1] [] E w_RX10_55 (hroom 3 2 (by decide) (by decide)) hAA (c10_whyNotOn _ κ A _ _ _ e5) (fun _ h => h) (fun _ _ _ h _ _ => h) (fun _ h => j_recv E h hc rfl) rfl rfl (Nat.le_of_ble_eq_true rfl) d_c10_toss_12 ⟨Nat.zero_le _, Nat.zero_le _⟩ ?_
    exact jx_iret E hQ (fun t ht hFt => ⟨rfl, rfl, ⟨s0.2, ht⟩, by rw [← hA]; exact hFt⟩) d_c10_toss_15 (by decide) (by decide)
  · obtain ⟨fl, ef, hF⟩ := obd_at hF
    refine j_blk (pc' := 7) (lv' := [(2, .ref b), (0, .ref a0), (1, .int p1)]) (st' := [.ref b]) E b_c10_toss_5 rfl ?_
    refine j_nonnull_y (tgt := 16) E d_c10_toss_7 (by decide) ?_
    refine j_blk (pc' := 17) (lv' := [(2, .ref b), (0, .ref a0), (1, .int p1)]) (st' := [.ref b]) E b_c10_toss_16 rfl ?_
    have hw1 : Cond.castable sUOE sUOE ∈ kyW := by decide +kernel
    have hw2 : Cond.castable sIAE sIAE ∈ kyW := by decide +kernel
    have hw3 : Cond.castable sISE sISE ∈ kyW := by decide +kernel
    have hY' : KY A (jS Γ) := hY
    refine jx_fail E (by rw [hA]; exact hY) hR (by decide) (by rw [hL]; exact hlt) hAA ef d_c10_toss_17 (Nat.le_of_ble_eq_true rfl) (by rw [hR]; decide) (fun h0 => ?_) (fun X n' hX => ?_)
    · rcases oft_at hF with ⟨-, hF⟩ | ⟨h, -⟩ | ⟨h, -⟩ | ⟨h, -⟩
      · cases hF
        refine j_goto (tgt := 48) E d_c10_toss_20 (by decide) ?_
        refine j_blk (pc' := 50) (lv' := [(2, .ref b), (0, .ref a0), (1, .int p1)]) (st' := [.int ((Int8.ofInt (-15)).toInt32)]) E b_c10_toss_48 rfl ?_
        exact jx_iret E hQ (fun t ht hFt => ⟨rfl, rfl, ⟨s0.2, ht⟩, by rw [← hA]; exact hFt⟩) d_c10_toss_50 (by decide) (by decide)
      all_goals (rw [h0] at h; cases h)
    · rcases oft_at hF with ⟨h, -⟩ | ⟨h, hF⟩ | ⟨h, hF⟩ | ⟨h, hF⟩
      · rw [h] at hX; cases hX
      · rw [h] at hX; cases hX
        obtain ⟨v, ev, hF⟩ := obd_at hF
        cases hF
        refine jt_catch (name := sUOE) E [] ⟨16, 20, 23, 265⟩ (tableOf [(16, 20, 33, 235), (16, 20, 42, 242)]) htab (fun _ h => nomatch h) rfl (by decide) m_663 (ky_ca hY' hw1) (fun q => ?_)
        refine j_blk (pc' := 28) (lv' := [(3, .ref q), (2, .ref b), (0, .ref a0), (1, .int p1)]) (st' := [.ref b, .int ((Int16.ofInt 200).toInt32)]) E b_c10_toss_23 rfl ?_
        refine jv_RX10_104 (s := (s0.1, n')) E hR (by decide) hAA (show v_cost (s0.1, n') b = some v from ev) d_c10_toss_28 (Nat.le_of_ble_eq_true rfl) (by rw [hR]; decide) ?_
        refine j_blk (pc' := 32) (lv' := [(3, .ref q), (2, .ref b), (0, .ref a0), (1, .int p1)]) (st' := [.int ((Int16.ofInt 200).toInt32 + v)]) E b_c10_toss_31 rfl ?_
        exact jx_iret E hQ (fun t ht hFt => ⟨rfl, rfl, ⟨n', ht⟩, by rw [← hA]; exact hFt⟩) d_c10_toss_32 (by decide) (by decide)
      · rw [h] at hX; cases hX
        obtain ⟨v, ev, hF⟩ := obd_at hF
        cases hF
        refine jt_catch (name := sIAE) E [⟨16, 20, 23, 265⟩] ⟨16, 20, 33, 235⟩ (tableOf [(16, 20, 42, 242)]) htab (List.forall_mem_cons.mpr ⟨Or.inr ⟨by decide, sUOE, m_663, ky_nc hY' (by decide +kernel)⟩, fun _ h => nomatch h⟩) rfl (by decide) m_664 (ky_ca hY' hw2) (fun q => ?_)
        refine j_blk (pc' := 37) (lv' := [(3, .ref q), (2, .ref b), (0, .ref a0), (1, .int p1)]) (st' := [.ref b, .int ((Int8.ofInt 100).toInt32)]) E b_c10_toss_33 rfl ?_
        refine j_getI (σ := (s0.1, n')) E fg_RX10_91 d_c10_toss_37 (show hfi (s0.1, n') sP 0 b = some v from ev) ?_
        refine j_blk (pc' := 41) (lv' := [(3, .ref q), (2, .ref b), (0, .ref a0), (1, .int p1)]) (st' := [.int ((Int8.ofInt 100).toInt32 + v)]) E b_c10_toss_40 rfl ?_
        exact jx_iret E hQ (fun t ht hFt => ⟨rfl, rfl, ⟨n', ht⟩, by rw [← hA]; exact hFt⟩) d_c10_toss_41 (by decide) (by decide)
      · rw [h] at hX; cases hX
        obtain ⟨v, ev, hF⟩ := obd_at hF
        cases hF
        refine jt_catch (name := sISE) E [⟨16, 20, 23, 265⟩, ⟨16, 20, 33, 235⟩] ⟨16, 20, 42, 242⟩ [] htab (List.forall_mem_cons.mpr ⟨Or.inr ⟨by decide, sUOE, m_663, ky_nc hY' (by decide +kernel)⟩, List.forall_mem_cons.mpr ⟨Or.inr ⟨by decide, sIAE, m_664, ky_nc hY' (by decide +kernel)⟩, fun _ h => nomatch h⟩⟩) rfl (by decide) m_665 (ky_ca hY' hw3) (fun q => ?_)
        refine j_blk (pc' := 44) (lv' := [(3, .ref q), (2, .ref b), (0, .ref a0), (1, .int p1)]) (st' := [.ref b]) E b_c10_toss_42 rfl ?_
        refine j_getI (σ := (s0.1, n')) E fg_RX10_91 d_c10_toss_44 (show hfi (s0.1, n') sP 0 b = some res from ev) ?_
        exact jx_iret E hQ (fun t ht hFt => ⟨rfl, rfl, ⟨n', ht⟩, by rw [← hA]; exact hFt⟩) d_c10_toss_47 (by decide) (by decide)
theorem b_kL_element_0 : bdec cL_element 0 [.aload_n 3, .iconst 0, .aload_n 0, .iload_n 1, .iload_n 2] = true := by decide +kernel
theorem d_kL_element_5 : decode cL_element 5 = .ok (.invokevirtual 7, 3) := by decide +kernel
theorem d_kL_element_8 : decode cL_element 8 = .ok (.lastore, 1) := by decide +kernel
theorem d_kL_element_9 : decode cL_element 9 = .ok (.goto 11, 3) := by decide +kernel
theorem b_kL_element_12 : bdec cL_element 12 [.astore 4, .iconst 1] = true := by decide +kernel
theorem d_kL_element_15 : decode cL_element 15 = .ok (.ireturn, 1) := by decide +kernel
theorem b_kL_element_16 : bdec cL_element 16 [.astore 4, .iconst 2] = true := by decide +kernel
theorem d_kL_element_19 : decode cL_element 19 = .ok (.ireturn, 1) := by decide +kernel
theorem b_kL_element_20 : bdec cL_element 20 [.iconst 0] = true := by decide +kernel
theorem d_kL_element_21 : decode cL_element 21 = .ok (.ireturn, 1) := by decide +kernel
def elT : List (Nat × Nat × Nat × Nat) := [(0, 9, 12, 13), (0, 9, 16, 15)]
theorem m_786 : Cond.codeWith yL_element cL_element 5 (some .int) elT ∈ WT := wt_in (List.mem_of_getElem? (i := 786) (by decide +kernel)) (by decide +kernel)
theorem w_RL_7 : CV RL 7 RX10 yX10_element cX10_element 4 2 (some .long) := ⟨m_792, m_45, m_789, m_790, m_791, by decide +kernel⟩
/-- the law's long[1] -/
def LO (cJ : ClassId) (o : Nat) (v : Int64) (H : Heap) : Prop := ∃ f : Nat → Int64, f 0 = v ∧ H[o]? = some (arrV cJ 1 (fun j => .long (f j)))
def fel (fl : Option String) : Option Int32 := oft fl (some (Int32.ofInt 0)) none (some (Int32.ofInt 1)) (some (Int32.ofInt 2))
def fel2 (fl : Option String) (u w : Int64) : Int64 := match fl with
  | none => u
  | some _ => w
def AO (A : Nat → Prop) (o : Nat) : Nat → Prop := fun q => A q ∨ q = o
set_option maxRecDepth 100000 in
set_option maxHeartbeats 4000000 in
theorem kL_element (l : Launch) (hlt : l.stackTraces = false) (κ : KP) (A : Nat → Prop) (s0 : HM) (a0 o : Nat) (p1 p2 : Int32) (cJ : ClassId) (w0 : Int64) (hoA : ¬ A o) (hc : hcls s0 a0 = some 10) {fl : Option String} {u : Int64} (hF : f10_element s0 a0 p1 p2 = some (fl, u)) {res : Int32} (hr : fel fl = some res) : vx_Met l yL_element (Cond.codeWith yL_element cL_element 5 (some .int) elT :: WT) (rmL 7 1 6) (fun v U => PY κ (AO A o) [.ref a0, .int p1, .int p2, .ref o] (fun H => HS κ A s0 H ∧ LO cJ o w0 H) v U ∧ ArrOfT U cJ .long) (QF none (some (.int res)) (fun H => HSn κ A s0 H ∧ LO cJ o (fel2 fl u w0) H) (AO A o)) (XX κ (AO A o) none s0) 1 6 (AO A o) := by
  refine mx_ofH (own := RL) (EX := fun U => ArrOfT U cJ .long) (by decide) rfl (Nat.le_of_ble_eq_true rfl) ?_
  intro Γ E hQ hL hR hA hH hY hJ htab
  have hAA : ∀ q, A q → jA Γ q := fun q h => by rw [hA]; exact Or.inl h
  have hAo : jA Γ o := by rw [hA]; exact Or.inr rfl
  have hroom : ∀ (d mL : Nat) {mc ms : Nat}, d < 7 → mL ≤ 21 → (rmL d mc ms).frames + 1 ≤ (jR Γ).frames ∧ 8 + (mL + 11) + (rmL d mc ms).locals ≤ (jR Γ).locals := fun d mL mc ms h1 h2 => by rw [hR]; exact rmL_le h1 h2
  show J Γ 5 (fun H => HS κ A s0 H ∧ LO cJ o w0 H) 0 0 0 [(0, .ref a0), (1, .int p1), (2, .int p2), (3, .ref o)] []
  have hLt : ∀ H, LO cJ o w0 H → o < H.size := fun H h => by
    obtain ⟨f, -, h⟩ := h
    obtain ⟨h1, -⟩ := Array.getElem?_eq_some_iff.mp h
    exact h1
  have hLk : ∀ (H H1 : Heap), LO cJ o w0 H → H1[o]? = H[o]? → LO cJ o w0 H1 := fun H H1 h hk => by
    obtain ⟨f, h0, h⟩ := h
    exact ⟨f, h0, hk.trans h⟩
  refine j_blk (pc' := 5) (lv' := [(0, .ref a0), (1, .int p1), (2, .int p2), (3, .ref o)]) (st' := [.int p2, .int p1, .ref a0, .int (Int32.ofInt 0), .ref o]) E b_kL_element_0 rfl ?_
  refine jx_cv (As := [.int p1, .int p2]) (rest := [.int (Int32.ofInt 0), .ref o]) (HP1 := fun H => HS κ A s0 H ∧ LO cJ o w0 H) (HPX := fun n' H => HS κ A (s0.1, n') H ∧ LO cJ o w0 H) (o := some (.long u)) E (by rw [hA]; exact hY) w_RL_7 (hroom 6 4 (by decide) (by decide)) hAA (c10_element _ (by rw [hL]; exact hlt) κ A s0 a0 p1 p2 hF) (fun _ h => j_recv E h hc rfl) rfl (fun _ h => h.1) (fun H H1 h h1 hz hk => ⟨h1, hLk H H1 h.2 (hk o (hLt H h.2) hoA)⟩) (fun H H1 n' h h1 hz hk => ⟨h1, hLk H H1 h.2 (hk o (hLt H h.2) hoA)⟩) (Nat.le_of_ble_eq_true rfl) d_kL_element_5 (by rw [hR]; decide) (fun h0 => ?_) (fun X n' hX => ?_)
  · subst h0
    cases hr
    show J Γ 5 _ _ _ 8 _ [.long u, .int (Int32.ofInt 0), .ref o]
    have kk : J Γ 5 (fun H => HSn κ A s0 H ∧ LO cJ o u H) 1 6 9 [(0, .ref a0), (1, .int p1), (2, .int p2), (3, .ref o)] [] := by
      refine j_goto (tgt := 20) E d_kL_element_9 (by decide) ?_
      refine j_blk (pc' := 21) (lv' := [(0, .ref a0), (1, .int p1), (2, .int p2), (3, .ref o)]) (st' := [.int (Int32.ofInt 0)]) E b_kL_element_20 rfl ?_
      exact jx_iret E hQ (fun t ht hFt => ⟨rfl, rfl, ht, by rw [← hA]; exact hFt⟩) d_kL_element_21 (by decide) (by decide)
    intro H locs ls hH hS hl
    obtain ⟨f, hf0, hfo⟩ := hH.2
    refine W.last E.1 E.2.1 hfo (hJ 1 (fun j => .long (f j))) (fun q => by cases q) (by show ¬ (_ ∨ (arrV _ _ _).slots.size ≤ _); rw [arrV_size]; decide) rfl rfl d_kL_element_8 fun H1 e z oq => ?_
    refine kk H1 _ ls ⟨⟨s0.2, ?_⟩, ⟨vp_updL f 0 u, rfl, ?_⟩⟩ (hS.put z oq hAo) hl
    · refine ⟨⟨z.trans hH.1.1.1, hH.1.1.2⟩, fun q e2 hq => ⟨(hH.1.2 q e2 hq).1, (hH.1.2 q e2 hq).2.kept (oq q (fun h => hoA (h ▸ (hH.1.2 q e2 hq).1)))⟩⟩
    · show H1[o]? = _
      rw [e]
      rw [arrV_store]
      congr 2
      funext j
      by_cases hj : j = 0
      · subst hj; rfl
      · show (updV _ _ _ j) = _
        have hz0 : (Int32.ofInt 0).toNatClampNeg = 0 := by decide
        simp [updV, vp_updL, hj, hz0]
  · rcases oft_at hr with ⟨h, -⟩ | ⟨h, hr⟩ | ⟨h, hr⟩ | ⟨h, hr⟩
    · rw [h] at hX; cases hX
    · cases hr
    · subst h
      cases hX
      cases hr
      refine jt_catch (name := sIAE) E [] ⟨0, 9, 12, 13⟩ (tableOf [(0, 9, 16, 15)]) htab (fun _ h => nomatch h) rfl (by decide) m_787 (ky_ca hY (by decide +kernel)) (fun q => ?_)
      refine j_blk (pc' := 15) (lv' := [(4, .ref q), (0, .ref a0), (1, .int p1), (2, .int p2), (3, .ref o)]) (st' := [.int (Int32.ofInt 1)]) E b_kL_element_12 rfl ?_
      exact jx_iret E hQ (fun t ht hFt => ⟨rfl, rfl, ⟨⟨n', ht.1⟩, ht.2⟩, by rw [← hA]; exact hFt⟩) d_kL_element_15 (by decide) (by decide)
    · subst h
      cases hX
      cases hr
      refine jt_catch (name := sISE) E [⟨0, 9, 12, 13⟩] ⟨0, 9, 16, 15⟩ [] htab (List.forall_mem_cons.mpr ⟨Or.inr ⟨by decide, sIAE, m_787, ky_nc hY (by decide +kernel)⟩, fun _ h => nomatch h⟩) rfl (by decide) m_788 (ky_ca hY (by decide +kernel)) (fun q => ?_)
      refine j_blk (pc' := 19) (lv' := [(4, .ref q), (0, .ref a0), (1, .int p1), (2, .int p2), (3, .ref o)]) (st' := [.int (Int32.ofInt 2)]) E b_kL_element_16 rfl ?_
      exact jx_iret E hQ (fun t ht hFt => ⟨rfl, rfl, ⟨⟨n', ht.1⟩, ht.2⟩, by rw [← hA]; exact hFt⟩) d_kL_element_19 (by decide) (by decide)
