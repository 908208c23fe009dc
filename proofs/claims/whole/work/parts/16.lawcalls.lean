/-! THE LAW's calls -/
theorem w_RL_21 : CV RL 21 RX10 yX10_league cX10_league 6 1 (some .int) := ⟨m_146, m_45, m_143, m_144, m_145, by decide +kernel⟩
theorem w_RL_25 : CV RL 25 RX11 yX11_league cX11_league 7 1 (some .int) := ⟨m_868, m_48, m_865, m_866, m_867, by decide +kernel⟩
theorem w_RL_26 : CV RL 26 RX10 yX10_one cX10_one 4 2 (some .int) := ⟨m_284, m_45, m_281, m_282, m_283, by decide +kernel⟩
theorem w_RL_30 : CV RL 30 RX11 yX11_one cX11_one 3 2 (some .int) := ⟨m_940, m_48, m_937, m_938, m_939, by decide +kernel⟩
theorem w_RL_31 : CV RL 31 RX10 yX10_comes cX10_comes 3 1 (some .int) := ⟨m_405, m_45, m_402, m_403, m_404, by decide +kernel⟩
theorem w_RL_34 : CV RL 34 RX11 yX11_comes cX11_comes 3 1 (some .int) := ⟨m_969, m_48, m_966, m_967, m_968, by decide +kernel⟩
theorem w_RL_35 : CV RL 35 RX10 yX10_beat cX10_beat 3 2 (some .int) := ⟨m_409, m_45, m_406, m_407, m_408, by decide +kernel⟩
theorem w_RL_38 : CV RL 38 RX11 yX11_beat cX11_beat 4 2 (some .int) := ⟨m_977, m_48, m_974, m_975, m_976, by decide +kernel⟩
theorem w_RL_39 : CV RL 39 RX10 yX10_law cX10_law 3 1 (some .int) := ⟨m_417, m_45, m_414, m_415, m_416, by decide +kernel⟩
theorem w_RL_42 : CV RL 42 RX11 yX11_law cX11_law 3 1 (some .int) := ⟨m_981, m_48, m_978, m_979, m_980, by decide +kernel⟩
theorem w_RL_43 : CV RL 43 RX10 yX10_lawful cX10_lawful 1 0 (some .int) := ⟨m_421, m_45, m_418, m_419, m_420, by decide +kernel⟩
theorem w_RL_47 : CV RL 47 RX11 yX11_lawful cX11_lawful 1 0 (some .int) := ⟨m_985, m_48, m_982, m_983, m_984, by decide +kernel⟩
theorem w_RL_48 : CV RL 48 RX10 yX10_masters cX10_masters 3 2 (some .int) := ⟨m_442, m_45, m_439, m_440, m_441, by decide +kernel⟩
theorem w_RL_51 : CV RL 51 RX11 yX11_masters cX11_masters 3 2 (some .int) := ⟨m_997, m_48, m_994, m_995, m_996, by decide +kernel⟩
theorem w_RL_52 : CV RL 52 RX10 yX10_orphans cX10_orphans 2 1 (some .int) := ⟨m_447, m_45, m_444, m_445, m_446, by decide +kernel⟩
theorem w_RL_55 : CV RL 55 RX11 yX11_orphans cX11_orphans 6 1 (some .int) := ⟨m_1001, m_48, m_998, m_999, m_1000, by decide +kernel⟩
theorem w_RL_56 : CV RL 56 RX10 yX10_holding cX10_holding 1 0 (some .int) := ⟨m_456, m_45, m_453, m_454, m_455, by decide +kernel⟩
theorem w_RL_59 : CV RL 59 RX11 yX11_holding cX11_holding 1 0 (some .int) := ⟨m_1005, m_48, m_1002, m_1003, m_1004, by decide +kernel⟩
theorem w_RL_60 : CV RL 60 RX10 yX10_free cX10_free 1 0 (some .int) := ⟨m_476, m_45, m_473, m_474, m_475, by decide +kernel⟩
theorem w_RL_63 : CV RL 63 RX11 yX11_free cX11_free 1 0 (some .int) := ⟨m_1017, m_48, m_1014, m_1015, m_1016, by decide +kernel⟩
theorem w_RL_64 : CV RL 64 RX10 yX10_rings cX10_rings 5 0 (some .int) := ⟨m_480, m_45, m_477, m_478, m_479, by decide +kernel⟩
theorem w_RL_67 : CV RL 67 RX11 yX11_rings cX11_rings 6 0 (some .int) := ⟨m_1021, m_48, m_1018, m_1019, m_1020, by decide +kernel⟩
theorem w_RL_68 : CV RL 68 RX10 yX10_cup cX10_cup 5 0 (some .int) := ⟨m_489, m_45, m_486, m_487, m_488, by decide +kernel⟩
theorem w_RL_71 : CV RL 71 RX11 yX11_cup cX11_cup 3 0 (some .int) := ⟨m_1025, m_48, m_1022, m_1023, m_1024, by decide +kernel⟩
theorem w_RL_72 : CV RL 72 RX10 yX10_right cX10_right 1 0 (some .int) := ⟨m_494, m_45, m_491, m_492, m_493, by decide +kernel⟩
theorem w_RL_75 : CV RL 75 RX11 yX11_right cX11_right 1 0 (some .int) := ⟨m_1029, m_48, m_1026, m_1027, m_1028, by decide +kernel⟩
theorem w_RL_76 : CV RL 76 RX10 yX10_cheapest cX10_cheapest 1 0 (some .int) := ⟨m_506, m_45, m_503, m_504, m_505, by decide +kernel⟩
theorem w_RL_79 : CV RL 79 RX11 yX11_cheapest cX11_cheapest 1 0 (some .int) := ⟨m_1041, m_48, m_1038, m_1039, m_1040, by decide +kernel⟩
theorem w_RL_80 : CV RL 80 RX10 yX10_fresh cX10_fresh 9 3 (some .int) := ⟨m_510, m_45, m_507, m_508, m_509, by decide +kernel⟩
theorem w_RL_84 : CV RL 84 RX11 yX11_fresh cX11_fresh 10 3 (some .int) := ⟨m_1045, m_48, m_1042, m_1043, m_1044, by decide +kernel⟩
theorem w_RL_85 : CV RL 85 RX10 yX10_leavers cX10_leavers 3 0 (some .int) := ⟨m_519, m_45, m_516, m_517, m_518, by decide +kernel⟩
theorem w_RL_88 : CV RL 88 RX11 yX11_leavers cX11_leavers 4 0 (some .int) := ⟨m_1058, m_48, m_1055, m_1056, m_1057, by decide +kernel⟩
theorem w_RL_89 : CV RL 89 RX10 yX10_odds cX10_odds 10 1 (some .long) := ⟨m_523, m_45, m_520, m_521, m_522, by decide +kernel⟩
theorem w_RL_93 : CV RL 93 RX11 yX11_odds cX11_odds 8 1 (some .long) := ⟨m_1062, m_48, m_1059, m_1060, m_1061, by decide +kernel⟩
theorem w_RL_94 : CV RL 94 RX10 yX10_ways cX10_ways 4 2 (some .int) := ⟨m_542, m_45, m_539, m_540, m_541, by decide +kernel⟩
theorem w_RL_97 : CV RL 97 RX11 yX11_ways cX11_ways 5 2 (some .int) := ⟨m_1083, m_48, m_1080, m_1081, m_1082, by decide +kernel⟩
theorem w_RL_98 : CV RL 98 RX10 yX10_round cX10_round 4 3 (some .int) := ⟨m_558, m_45, m_555, m_556, m_557, by decide +kernel⟩
theorem w_RL_101 : CV RL 101 RX11 yX11_round cX11_round 4 3 (some .int) := ⟨m_1088, m_48, m_1085, m_1086, m_1087, by decide +kernel⟩
theorem w_RL_102 : CV RL 102 RX10 yX10_byRounds cX10_byRounds 6 2 (some .int) := ⟨m_571, m_45, m_568, m_569, m_570, by decide +kernel⟩
theorem w_RL_105 : CV RL 105 RX11 yX11_byRounds cX11_byRounds 7 2 (some .int) := ⟨m_1106, m_48, m_1103, m_1104, m_1105, by decide +kernel⟩
theorem w_RL_106 : CV RL 106 RX10 yX10_played cX10_played 6 1 (some .int) := ⟨m_578, m_45, m_575, m_576, m_577, by decide +kernel⟩
theorem w_RL_109 : CV RL 109 RX11 yX11_played cX11_played 5 1 (some .int) := ⟨m_1110, m_48, m_1107, m_1108, m_1109, by decide +kernel⟩
theorem w_RL_110 : CV RL 110 RX10 yX10_seeded cX10_seeded 6 2 (some .int) := ⟨m_582, m_45, m_579, m_580, m_581, by decide +kernel⟩
theorem w_RL_113 : CV RL 113 RX11 yX11_seeded cX11_seeded 7 2 (some .int) := ⟨m_1122, m_48, m_1119, m_1120, m_1121, by decide +kernel⟩
theorem w_RL_114 : CV RL 114 RX10 yX10_judge cX10_judge 6 1 (some .int) := ⟨m_595, m_45, m_592, m_593, m_594, by decide +kernel⟩
theorem w_RL_117 : CV RL 117 RX11 yX11_judge cX11_judge 5 1 (some .int) := ⟨m_1134, m_48, m_1131, m_1132, m_1133, by decide +kernel⟩
theorem w_RL_118 : CV RL 118 RX10 yX10_image cX10_image 1 0 (some .int) := ⟨m_604, m_45, m_601, m_602, m_603, by decide +kernel⟩
theorem w_RL_121 : CV RL 121 RX11 yX11_image cX11_image 1 0 (some .int) := ⟨m_1142, m_48, m_1139, m_1140, m_1141, by decide +kernel⟩
theorem w_RL_122 : CV RL 122 RX10 yX10_restore cX10_restore 1 0 (some .int) := ⟨m_608, m_45, m_605, m_606, m_607, by decide +kernel⟩
theorem w_RL_125 : CV RL 125 RX11 yX11_restore cX11_restore 1 0 (some .int) := ⟨m_1146, m_48, m_1143, m_1144, m_1145, by decide +kernel⟩
theorem w_RL_126 : CV RL 126 RX10 yX10_count cX10_count 2 1 (some .int) := ⟨m_612, m_45, m_609, m_610, m_611, by decide +kernel⟩
theorem w_RL_129 : CV RL 129 RX11 yX11_count cX11_count 4 1 (some .int) := ⟨m_1150, m_48, m_1147, m_1148, m_1149, by decide +kernel⟩
theorem w_RL_130 : CV RL 130 RX10 yX10_keep cX10_keep 5 4 (some .int) := ⟨m_620, m_45, m_617, m_618, m_619, by decide +kernel⟩
theorem w_RL_134 : CV RL 134 RX11 yX11_keep cX11_keep 5 4 (some .int) := ⟨m_1154, m_48, m_1151, m_1152, m_1153, by decide +kernel⟩
theorem w_RL_135 : CV RL 135 RX10 yX10_row cX10_row 4 3 (some .int) := ⟨m_624, m_45, m_621, m_622, m_623, by decide +kernel⟩
theorem w_RL_138 : CV RL 138 RX11 yX11_row cX11_row 5 3 (some .int) := ⟨m_1158, m_48, m_1155, m_1156, m_1157, by decide +kernel⟩
theorem w_RL_139 : CV RL 139 RX10 yX10_put cX10_put 5 3 (some .int) := ⟨m_642, m_45, m_639, m_640, m_641, by decide +kernel⟩
theorem w_RL_142 : CV RL 142 RX11 yX11_put cX11_put 5 3 (some .int) := ⟨m_1162, m_48, m_1159, m_1160, m_1161, by decide +kernel⟩
theorem w_RL_148 : CV RL 148 RX11 yX11_element cX11_element 3 2 (some .long) := ⟨m_1166, m_48, m_1163, m_1164, m_1165, by decide +kernel⟩
theorem w_RL_149 : CV RL 149 RX11 yX11_thrown cX11_thrown 1 0 (some .int) := ⟨m_864, m_48, m_861, m_862, m_863, by decide +kernel⟩
theorem w_RL_152 : CV RL 152 RX10 yX10_copy cX10_copy 8 5 (some .int) := ⟨m_651, m_45, m_648, m_649, m_650, by decide +kernel⟩
theorem w_RL_156 : CV RL 156 RX11 yX11_copy cX11_copy 8 5 (some .int) := ⟨m_1170, m_48, m_1167, m_1168, m_1169, by decide +kernel⟩
theorem w_RL_157 : CV RL 157 RX10 yX10_price cX10_price 3 1 (some .int) := ⟨m_658, m_45, m_655, m_656, m_657, by decide +kernel⟩
theorem w_RL_160 : CV RL 160 RX11 yX11_price cX11_price 3 1 (some .int) := ⟨m_1174, m_48, m_1171, m_1172, m_1173, by decide +kernel⟩
theorem w_RL_164 : CV RL 164 RX11 yX11_toss cX11_toss 5 1 (some .int) := ⟨m_1178, m_48, m_1175, m_1176, m_1177, by decide +kernel⟩
/-- the law's heap: the class's cells, the model's cells, out -/
def HL (κx κm : KP) (Ax Am : Nat → Prop) (cJ : ClassId) (o : Nat) (X M : Nat → Option HO) (n : Nat) (v : Int64) : Heap → Prop := fun H => HS κx Ax (X, n) H ∧ HS κm Am (M, n) H ∧ LO cJ o v H
def LH (Γ : JC) (κx κm : KP) (Ax Am : Nat → Prop) (o : Nat) (cJ : ClassId) (b L : Nat) (xs : Nat → Int32) : Prop :=
  JE Γ κx cL_law RL 8 (some .boolean) ∧ JE Γ κm cL_law RL 8 (some .boolean) ∧ (∀ q, Ax q → jA Γ q) ∧ (∀ q, Am q → jA Γ q) ∧ jA Γ o ∧ ¬ jA Γ b ∧ b < (jS Γ).heap.size ∧ va_X b L xs (jS Γ) (jS Γ).heap ∧ KY (jA Γ) (jS Γ) ∧ (jL Γ).stackTraces = false ∧ ArrOfT (jS Γ) cJ .long ∧ jR Γ = room_1 ∧ (∀ q, Ax q → ¬ Am q) ∧ (¬ Ax o ∧ ¬ Am o) ∧ kF κx = true ∧ (L ≤ 3072)
theorem HS.other {κ : KP} {A A1 : Nat → Prop} {M : Nat → Option HO} {n n1 : Nat} {H H1 : Heap} (h : HS κ A (M, n) H) (hz : H.size ≤ H1.size) (hk : ∀ q : Nat, q < H.size → ¬ A1 q → H1[q]? = H[q]?) (hA : ∀ q, A q → ¬ A1 q) (hn : H1.size = n1) : HS κ A (M, n1) H1 :=
  ⟨⟨hn, fun hf q hq => h.1.2 hf q (Nat.le_trans (Nat.le_trans (Nat.le_of_eq h.1.1.symm) hz) (hn ▸ hq))⟩, fun a o ha => ⟨(h.2 a o ha).1, (h.2 a o ha).2.kept (hk a (h.2 a o ha).2.lt (hA a (h.2 a o ha).1))⟩⟩
theorem LO.kept {cJ : ClassId} {o : Nat} {v : Int64} {H H1 : Heap} {A1 : Nat → Prop} (h : LO cJ o v H) (hk : ∀ q : Nat, q < H.size → ¬ A1 q → H1[q]? = H[q]?) (ho : ¬ A1 o) : LO cJ o v H1 := by
  obtain ⟨f, h0, h⟩ := h
  obtain ⟨h1, -⟩ := Array.getElem?_eq_some_iff.mp h
  exact ⟨f, h0, (hk o h1 ho).trans h⟩
section JLAW
variable {Γ : JC} {κx κm : KP} {Ax Am : Nat → Prop} {o b L a ma : Nat} {cJ : ClassId} {xs : Nat → Int32} {X M X' M' : Nat → Option HO} {n n' : Nat} {v : Int64} {k m pc : Nat} {lv : List (Nat × Value)} {st : List Value}
theorem j_sld {HP : Heap → Prop} {ix : Int32} (G : LH Γ κx κm Ax Am o cJ b L xs) (hd : decode cL_law pc = .ok (.iaload, 1)) (hi : vp_in ix L) (kk : J Γ 8 HP k m (pc + 1) lv (.int (xs ix.toNatClampNeg) :: st)) : J Γ 8 HP k m pc lv (.int ix :: .ref b :: st) := by
  obtain ⟨E, -, -, -, -, hb, hbl, hX, -⟩ := G
  intro H locs ls hH hS hl
  exact va_sld E.1 E.2.1 hX hbl hb hS hi hd (kk H locs ls hH hS hl)
theorem j_slen {HP : Heap → Prop} (G : LH Γ κx κm Ax Am o cJ b L xs) (hd : decode cL_law pc = .ok (.arraylength, 1)) (kk : J Γ 8 HP k m (pc + 1) lv (.int (Int32.ofNat L) :: st)) : J Γ 8 HP k m pc lv (.ref b :: st) := by
  obtain ⟨E, -, -, -, -, hb, hbl, hX, -⟩ := G
  intro H locs ls hH hS hl
  exact va_slen E.1 E.2.1 hX hbl hb hS hd (kk H locs ls hH hS hl)
theorem lw_cx {y : MethodName} {bytes : ByteArray} {maxL N d idx mc ms : Nat} {ret' : Option FieldType} {ov : Option Value} (As rest : List Value) (G : LH Γ κx κm Ax Am o cJ b L xs) (w : CV RL idx RX10 y bytes maxL N ret') (hd1 : d ≤ 110 ∧ maxL ≤ 21)
    (hM : Met (jL Γ) y (Cond.code y bytes maxL ret' :: WT) (rmL d mc ms) (PP κx Ax (.ref a :: As) (HS κx Ax (X, n))) (QQ ov (HS κx Ax (X', n')) Ax) mc ms Ax) (hc : hcls (X, n) a = some 10)
    (hst : st = As.reverse ++ .ref a :: rest) (hn : As.length = N) (hcat : (rest.map fun v => v.category).sum ≤ 8) (hd : decode cL_law pc = .ok (.invokevirtual idx, 3)) (hk : k + mc ≤ 607560 ∧ m + ms ≤ 7273423)
    (kk : J Γ 8 (HL κx κm Ax Am cJ o X' M n' v) (k + mc) (m + ms) (pc + 3) lv (ov.toList ++ rest)) : J Γ 8 (HL κx κm Ax Am cJ o X M n v) k m pc lv st := by
  obtain ⟨E, Em, hAx, hAm, hAo, hb, hbl, hX, hY, hlt, hJ, hR, hdj, ho, hfx, hL⟩ := G
  refine j_callv As rest E w (by rw [hR]; show d + 1 ≤ 2048 ∧ 8 + (maxL + 11) + 40 * d ≤ 84000; omega) hAx hM (fun H h => h.1) (fun H H1 h h1 hz hk => ⟨h1, h.2.1.other hz hk (fun q hq hx => hdj q hx hq) h1.1.1, h.2.2.kept hk ho.1⟩) (fun H h => j_recv E h.1 hc rfl) hst hn hcat hd (by rw [hR]; exact hk) kk
theorem lw_cm {y : MethodName} {bytes : ByteArray} {maxL N d idx mc ms : Nat} {ret' : Option FieldType} {ov : Option Value} (As rest : List Value) (G : LH Γ κx κm Ax Am o cJ b L xs) (w : CV RL idx RX11 y bytes maxL N ret') (hd1 : d ≤ 110 ∧ maxL ≤ 21)
    (hM : Met (jL Γ) y (Cond.code y bytes maxL ret' :: WT) (rmL d mc ms) (PP κm Am (.ref ma :: As) (HS κm Am (M, n))) (QQ ov (HS κm Am (M', n')) Am) mc ms Am) (hc : hcls (M, n) ma = some 11)
    (hst : st = As.reverse ++ .ref ma :: rest) (hn : As.length = N) (hcat : (rest.map fun v => v.category).sum ≤ 8) (hd : decode cL_law pc = .ok (.invokevirtual idx, 3)) (hk : k + mc ≤ 607560 ∧ m + ms ≤ 7273423)
    (kk : J Γ 8 (HL κx κm Ax Am cJ o X M' n' v) (k + mc) (m + ms) (pc + 3) lv (ov.toList ++ rest)) : J Γ 8 (HL κx κm Ax Am cJ o X M n v) k m pc lv st := by
  obtain ⟨E, Em, hAx, hAm, hAo, hb, hbl, hX, hY, hlt, hJ, hR, hdj, ho, hfx, hL⟩ := G
  refine j_callv As rest Em w (by rw [hR]; show d + 1 ≤ 2048 ∧ 8 + (maxL + 11) + 40 * d ≤ 84000; omega) hAm hM (fun H h => h.2.1) (fun H H1 h h1 hz hk => ⟨h.1.other hz hk (fun q hq hx => hdj q hq hx) h1.1.1, h1, h.2.2.kept hk ho.2⟩) (fun H h => j_recv Em h.2.1 hc rfl) hst hn hcat hd (by rw [hR]; exact hk) kk
theorem lw_in {i j : Nat} (hi : i + j < L) (hL : L ≤ 3072) : vp_in (Int32.ofNat i + Int32.ofNat j) L := by
  rw [← Int32.ofNat_add]
  refine inb_in ?_
  unfold inb
  rw [Int32.toInt_ofNat_of_lt (by omega)]
  simp
  omega
theorem lw_in0 {i : Nat} (hi : i + 5 < L) (hL : L ≤ 3072) : vp_in (Int32.ofNat i) L := by
  refine inb_in ?_
  unfold inb
  rw [Int32.toInt_ofNat_of_lt (by omega)]
  simp
  omega
theorem lw_in1 {i : Nat} (hi : i + 5 < L) (hL : L ≤ 3072) : vp_in (Int32.ofNat i + Int32.ofInt 1) L := lw_in (j := 1) (by omega) hL
theorem lw_in2 {i : Nat} (hi : i + 5 < L) (hL : L ≤ 3072) : vp_in (Int32.ofNat i + Int32.ofInt 2) L := lw_in (j := 2) (by omega) hL
theorem lw_in3 {i : Nat} (hi : i + 5 < L) (hL : L ≤ 3072) : vp_in (Int32.ofNat i + Int32.ofInt 3) L := lw_in (j := 3) (by omega) hL
theorem lw_in4 {i : Nat} (hi : i + 5 < L) (hL : L ≤ 3072) : vp_in (Int32.ofNat i + Int32.ofInt 4) L := lw_in (j := 4) (by omega) hL
theorem lw_in5 {i : Nat} (hi : i + 5 < L) (hL : L ≤ 3072) : vp_in (Int32.ofNat i + Int32.ofInt 5) L := lw_in (j := 5) (by omega) hL
/-- a call of the class that may throw inside, but not out -/
theorem j_runN {κ : KP} {HP HP1 P1 : Heap → Prop} {cc : ByteArray} {own : String} {nL mc ms : Nat} {ret : Option FieldType} {ar : Array Value} {ov : Option Value} {rest : List Value} {A1 : Nat → Prop} {σ2 : HM} (E : JE Γ κ cc own nL ret) (hA1 : ∀ q, A1 q → jA Γ q)
    (hpost : ∀ H H1, HP H → P1 H1 → H.size ≤ H1.size → (∀ q, q < H.size → ¬ A1 q → H1[q]? = H[q]?) → HP1 H1)
    (hr : ∀ (H : Heap) (locs : List Loc) (ls : Array Slot), HP H → va_S (jA Γ) (jS Γ).heap H locs → lv_has ls nL lv → vx_Run (jP Γ) (jL Γ) (jE Γ) (jR Γ) (jS Γ) (jM Γ) (jV Γ) (jB Γ) (jT Γ) (jC Γ) H locs k m mc ms (F0 (jM Γ) pc ls st) rest (QF none ov P1 A1 ar) (XX κ A1 none σ2) A1)
    (kk : J Γ nL HP1 (k + mc) (m + ms) (pc + 3) lv (ov.toList ++ rest)) : J Γ nL HP k m pc lv st := by
  intro H locs ls hH hS hl T hT X0
  rcases hr H locs ls hH hS hl T hT X0 with ⟨w, st₀, t, T', L1, h0, X', hL, e1, e2, ⟨-, hv, hp, hF⟩, stp⟩ | ⟨q, st₀, t, T', L1, E9, ce, h0, X', hL, e1, e2, ⟨hfl, -⟩, -⟩
  · cases hv
    obtain ⟨k1, k2, k3⟩ := vx_keep h0 e1 hS (fun q _ h => hA1 q h) hA1 hL hF
    obtain ⟨t2, a1, b1⟩ := kk T'.heap (locs ++ L1) ls (hpost H T'.heap hH (by rw [e1]; exact hp) k1 k2) k3 hl T' rfl X'
    exact ⟨t2, stp t2 a1, b1⟩
  · cases hfl
theorem wt_goodC {w : Cond} (h : w ∈ WT) : GoodIn WT (w :: WT) := by
  intro z hz
  rcases List.mem_cons.mp hz with rfl | hz
  · exact ⟨h, wt_good _ h⟩
  · exact ⟨hz, wt_good _ hz⟩
theorem pf_at {α : Type} {f : Option α} {s s' : HM} {r : α} (h : obd f (fun r => some (r, s)) = some (r, s')) : f = some r ∧ s' = s := by
  obtain ⟨r1, h1, h2⟩ := obd_at h
  have h3 := Option.some.inj h2
  have h4 := (Prod.mk.inj h3)
  exact ⟨h1.trans (congrArg some h4.1), h4.2.symm⟩
theorem lg_cmp_self (r : Int64) : lg_cmp r r = 0 := by simp [lg_cmp]
theorem lw_toss {p1 : Int32} {r : Int32} (G : LH Γ κx κm Ax Am o cJ b L xs) (hc : hcls (X, n) a = some 10) (hF : f10_toss (X, n) a p1 = some r) (hd : decode cL_law pc = .ok (.invokevirtual 161, 3)) (hk : k + 1 ≤ 607560 ∧ m + 6 ≤ 7273423)
    (kk : ∀ n1, n ≤ n1 → J Γ 8 (HL κx κm Ax Am cJ o X M n1 v) (k + 1) (m + 6) (pc + 3) lv [.int r]) : J Γ 8 (HL κx κm Ax Am cJ o X M n v) k m pc lv [.int p1, .ref a] := by
  obtain ⟨E, Em, hAx, hAm, hAo, hb, hbl, hX, hY, hlt, hJ, hR, hdj, ho, hfx, hL⟩ := G
  have ok := E.2.2.2.2.1
  refine j_runN (mc := 1) (ms := 6) (A1 := Ax) (σ2 := (X, n)) (ar := (Value.ref a :: [.int p1]).toArray) (P1 := HSn κx Ax (X, n)) (HP1 := fun H => ∃ n1, n ≤ n1 ∧ HL κx κm Ax Am cJ o X M n1 v H) (ov := some (.int r)) (rest := []) E hAx (fun H H1 h h1 hz hk => ?_) (fun H locs ls hH hS hl => ?_) ?_
  · obtain ⟨n1, h1⟩ := h1
    refine ⟨n1, ?_, h1, h.2.1.other hz hk (fun q hq hx => hdj q hx hq) h1.1.1, h.2.2.kept hk ho.1⟩
    have e1 : H.size = n := h.1.1.1
    have e2 : H1.size = n1 := h1.1.1
    omega
  · refine vx_runVX (hh := tossT) (C := RX10) (b := a) (As := [.int p1]) (rest := []) (bytes := cX10_toss) (maxL := 4) (ret := some .int) (n := 1) (j_fix E) (c10_toss (jL Γ) hlt κx Ax (X, n) a p1 hF) ⟨⟨rfl, rfl, by rw [hR]; decide, by rw [hR]; decide, pay_in ok (wt_goodC m_662), List.mem_cons_self⟩, ok _ m_662, ok _ m_45, by decide, fun sig h => ?_, ok _ m_659, ok _ m_660, ok _ m_661⟩ ⟨?_, j_recv E hH.1 hc rfl, fun U hU hW => ⟨j_startY E hY hAx hS hH.1 U hU hW, trivial⟩⟩ rfl rfl hl.1 rfl (lv_room (Nat.le_of_ble_eq_true rfl)) hd (by rw [hR]; exact hk)
    · have h2 : (parseMethodDescriptor yX10_toss.desc).map (fun d => d.parameters.length) = some 1 := by decide +kernel
      rw [h] at h2
      exact (Option.some.inj h2).symm
    · exact fun z U g mk h => ⟨PY_blind z U g mk h.1, trivial⟩
  · exact j_ex (fun n1 => j_pre (fun H h => h.1) (fun hn1 => j_imp (fun H h => h.2) (kk n1 hn1)))
theorem lw_elem {p1 p2 : Int32} {fl : Option String} {u : Int64} {r : Int32} (G : LH Γ κx κm Ax Am o cJ b L xs) (hc : hcls (X, n) a = some 10) (hF : f10_element (X, n) a p1 p2 = some (fl, u)) (hr : fel fl = some r) (hd : decode cL_law pc = .ok (.invokestatic 143, 3)) (hk : k + 1 ≤ 607560 ∧ m + 6 ≤ 7273423)
    (kk : ∀ n1, n ≤ n1 → J Γ 8 (HL κx κm Ax Am cJ o X M n1 (fel2 fl u v)) (k + 1) (m + 6) (pc + 3) lv [.int r]) : J Γ 8 (HL κx κm Ax Am cJ o X M n v) k m pc lv [.ref o, .int p2, .int p1, .ref a] := by
  obtain ⟨E, Em, hAx, hAm, hAo, hb, hbl, hX, hY, hlt, hJ, hR, hdj, ho, hfx, hL⟩ := G
  have ok := E.2.2.2.2.1
  have hAO : ∀ q, AO Ax o q → jA Γ q := fun q h => h.elim (hAx q) (fun e => e ▸ hAo)
  refine j_runN (mc := 1) (ms := 6) (A1 := AO Ax o) (σ2 := (X, n)) (ar := ([.ref a, .int p1, .int p2, .ref o] : List Value).toArray) (P1 := fun H => HSn κx Ax (X, n) H ∧ LO cJ o (fel2 fl u v) H) (HP1 := fun H => ∃ n1, n ≤ n1 ∧ HL κx κm Ax Am cJ o X M n1 (fel2 fl u v) H) (ov := some (.int r)) (rest := []) E hAO (fun H H1 h h1 hz hk => ?_) (fun H locs ls hH hS hl => ?_) ?_
  · obtain ⟨⟨n1, h1⟩, h2⟩ := h1
    refine ⟨n1, ?_, h1, h.2.1.other hz hk (fun q hq hx => hx.elim (fun hx => hdj q hx hq) (fun e => ho.2 (e ▸ hq))) h1.1.1, h2⟩
    have e1 : H.size = n := h.1.1.1
    have e2 : H1.size = n1 := h1.1.1
    omega
  · refine vx_runSX (hh := elT) (As := [.ref a, .int p1, .int p2, .ref o]) (rest := []) (bytes := cL_element) (maxL := 5) (ret := some .int) (n := 4) (j_fix E) (kL_element (jL Γ) hlt κx Ax (X, n) a o p1 p2 cJ v ho.1 hc hF hr) ⟨⟨rfl, rfl, by rw [hR]; decide, by rw [hR]; decide, pay_in ok (wt_goodC m_786), List.mem_cons_self⟩, ok _ m_786, ok _ m_44, by decide, fun sig h => ?_, ok _ m_784, ok _ m_785⟩ ⟨?_, fun U hU hW => ⟨j_startY E hY hAO hS (P := fun H => HS κx Ax (X, n) H ∧ LO cJ o v H) ⟨hH.1, hH.2.2⟩ U hU hW, arrOfT_moved hW.alike hJ⟩⟩ rfl rfl hl.1 rfl (lv_room (Nat.le_of_ble_eq_true rfl)) hd (by rw [hR]; exact hk)
    · have h2 : (parseMethodDescriptor yL_element.desc).map (fun d => d.parameters.length) = some 4 := by decide +kernel
      rw [h] at h2
      exact (Option.some.inj h2).symm
    · exact fun z U g mk h => ⟨PY_blind z U g mk h.1, arrOfT_moved (Vm.Alike.refl _) h.2⟩
  · exact j_ex (fun n1 => j_pre (fun H h => h.1) (fun hn1 => j_imp (fun H h => h.2) (kk n1 hn1)))
theorem j_lld {i : Int32} (G : LH Γ κx κm Ax Am o cJ b L xs) (hd : decode cL_law pc = .ok (.laload, 1)) (hi : i = Int32.ofInt 0) (kk : J Γ 8 (HL κx κm Ax Am cJ o X M n v) k m (pc + 1) lv (.long v :: st)) : J Γ 8 (HL κx κm Ax Am cJ o X M n v) k m pc lv (.int i :: .ref o :: st) := by
  obtain ⟨E, Em, hAx, hAm, hAo, hb, hbl, hX, hY, hlt, hJ, hR, hdj, ho, hfx, hL⟩ := G
  subst hi
  intro H locs ls hH hS hl
  obtain ⟨f, hf0, hfo⟩ := hH.2.2
  have hk := kk H locs ls hH hS hl
  rw [← hf0] at hk
  exact W.lald (v := .long (f 0)) E.1 E.2.1 hfo (hJ 1 (fun j => .long (f j))) (fun q => by cases q) (by show ¬ (_ ∨ (arrV _ _ _).slots.size ≤ _); rw [arrV_size]; decide) (by show (arrV _ _ _).slots[_]? = _; exact arrV_read _ _ (Nat.lt_succ_self 0)) rfl rfl hd hk
end JLAW
/-- call 0 -/
def S_league (R : (Nat → Option HO) → (Nat → Option HO) → Nat → Prop) (a ma : Nat) : Prop := ∀ (X M : Nat → Option HO) (n : Nat) (p1 : Int32), R X M n → ∃ (r : Int32) (X' : Nat → Option HO) (n' : Nat) (M' : Nat → Option HO) (n'' : Nat), f10_league (X, n) a p1 = some (r, (X', n')) ∧ f11_league (M, n') ma p1 = some (r, (M', n'')) ∧ R X' M' n''
theorem bl_188 : bdec cL_law 188 [.aload_n 1, .aload_n 0, .iload 4, .iconst 1, .iadd] = true := by decide +kernel
theorem dl_194 : decode cL_law 194 = .ok (.iaload, 1) := by decide +kernel
theorem dl_195 : decode cL_law 195 = .ok (.invokevirtual 21, 3) := by decide +kernel
theorem bl_198 : bdec cL_law 198 [.aload_n 2, .aload_n 0, .iload 4, .iconst 1, .iadd] = true := by decide +kernel
theorem dl_204 : decode cL_law 204 = .ok (.iaload, 1) := by decide +kernel
theorem dl_205 : decode cL_law 205 = .ok (.invokevirtual 25, 3) := by decide +kernel
theorem dl_208 : decode cL_law 208 = .ok (.if_icmp .eq 980, 3) := by decide +kernel
set_option maxRecDepth 100000 in
theorem lk_league {Γ : JC} {κx κm : KP} {Ax Am : Nat → Prop} {o b L a ma : Nat} {cJ : ClassId} {xs : Nat → Int32} {X M : Nat → Option HO} {n : Nat} {v : Int64} {k m i : Nat} (G : LH Γ κx κm Ax Am o cJ b L xs) {R : (Nat → Option HO) → (Nat → Option HO) → Nat → Prop} (hRx : ∀ X M n, R X M n → hcls (X, n) a = some 10 ∧ hcls (M, n) ma = some 11) (hS : S_league R a ma) (hi : i + 5 < L) (hk : k + 110 ≤ 607560 ∧ m + 110 ≤ 7273423) (hRR : R X M n)
    (kk : ∀ X M n v, R X M n → J Γ 8 (HL κx κm Ax Am cJ o X M n v) (k + 110) (m + 110) 1188 [(0, .ref b), (1, .ref a), (2, .ref ma), (3, .ref o), (4, .int (Int32.ofNat i))] []) : J Γ 8 (HL κx κm Ax Am cJ o X M n v) k m 188 [(0, .ref b), (1, .ref a), (2, .ref ma), (3, .ref o), (4, .int (Int32.ofNat i))] [] := by
  have E := G.1
  have hLL : L ≤ 3072 := G.2.2.2.2.2.2.2.2.2.2.2.2.2.2.2
  obtain ⟨r, X1, n1, M1, n2, hfx, hfm, hR1⟩ := hS X M n (xs (Int32.ofNat i + Int32.ofInt 1).toNatClampNeg) hRR
  refine j_blk (pc' := 194) (lv' := [(0, .ref b), (1, .ref a), (2, .ref ma), (3, .ref o), (4, .int (Int32.ofNat i))]) (st' := [.int (Int32.ofNat i + Int32.ofInt 1), .ref b, .ref a]) E bl_188 rfl ?_
  refine j_sld G dl_194 (lw_in1 hi hLL) ?_
  refine lw_cx (d := 6) (mc := 101) (ms := 101) [.int (xs (Int32.ofNat i + Int32.ofInt 1).toNatClampNeg)] [] (ov := some (.int r)) (X' := X1) (n' := n1) G w_RL_21 (by decide) (c10_league _ κx Ax G.2.2.2.2.2.2.2.2.2.2.2.2.2.2.1 _ _ _ hfx) (hRx _ _ _ hRR).1 rfl rfl (Nat.le_of_ble_eq_true rfl) dl_195 (by omega) ?_
  show J Γ 8 _ _ _ _ _ [.int r]
  refine j_blk (pc' := 204) (lv' := [(0, .ref b), (1, .ref a), (2, .ref ma), (3, .ref o), (4, .int (Int32.ofNat i))]) (st' := [.int (Int32.ofNat i + Int32.ofInt 1), .ref b, .ref ma, .int r]) E bl_198 rfl ?_
  refine j_sld G dl_204 (lw_in1 hi hLL) ?_
  refine lw_cm (d := 4) (mc := 0) (ms := 0) [.int (xs (Int32.ofNat i + Int32.ofInt 1).toNatClampNeg)] [.int r] (ov := some (.int r)) (M' := M1) (n' := n2) G w_RL_25 (by decide) (c11_league _ κm Am _ _ _ hfm) (show hcls (M, n1) ma = some 11 from (hRx _ _ _ hRR).2) rfl rfl (Nat.le_of_ble_eq_true rfl) dl_205 (by omega) ?_
  show J Γ 8 _ _ _ _ _ [.int r, .int r]
  refine j_icmp_eq (tgt := 1188) E dl_208 (by decide) (fun _ => j_wid (by omega) (by omega) (kk _ _ _ _ hR1)) (fun h => absurd rfl h)
/-- call 1 -/
def S_one (R : (Nat → Option HO) → (Nat → Option HO) → Nat → Prop) (a ma : Nat) : Prop := ∀ (X M : Nat → Option HO) (n : Nat) (p1 : Int32) (p2 : Int32), R X M n → ∃ (r : Int32) (X' : Nat → Option HO) (n' : Nat) (M' : Nat → Option HO) (n'' : Nat), obd (f10_one (X, n) a p1 p2) (fun r => some (r, (X, n))) = some (r, (X', n')) ∧ obd (f11_one (M, n') ma p1 p2) (fun r => some (r, (M, n'))) = some (r, (M', n'')) ∧ R X' M' n''
theorem bl_213 : bdec cL_law 213 [.aload_n 1, .aload_n 0, .iload 4, .iconst 1, .iadd] = true := by decide +kernel
theorem dl_219 : decode cL_law 219 = .ok (.iaload, 1) := by decide +kernel
theorem bl_220 : bdec cL_law 220 [.aload_n 0, .iload 4, .iconst 2, .iadd] = true := by decide +kernel
theorem dl_225 : decode cL_law 225 = .ok (.iaload, 1) := by decide +kernel
theorem dl_226 : decode cL_law 226 = .ok (.invokevirtual 26, 3) := by decide +kernel
theorem bl_229 : bdec cL_law 229 [.aload_n 2, .aload_n 0, .iload 4, .iconst 1, .iadd] = true := by decide +kernel
theorem dl_235 : decode cL_law 235 = .ok (.iaload, 1) := by decide +kernel
theorem bl_236 : bdec cL_law 236 [.aload_n 0, .iload 4, .iconst 2, .iadd] = true := by decide +kernel
theorem dl_241 : decode cL_law 241 = .ok (.iaload, 1) := by decide +kernel
theorem dl_242 : decode cL_law 242 = .ok (.invokevirtual 30, 3) := by decide +kernel
theorem dl_245 : decode cL_law 245 = .ok (.if_icmp .eq 943, 3) := by decide +kernel
set_option maxRecDepth 100000 in
theorem lk_one {Γ : JC} {κx κm : KP} {Ax Am : Nat → Prop} {o b L a ma : Nat} {cJ : ClassId} {xs : Nat → Int32} {X M : Nat → Option HO} {n : Nat} {v : Int64} {k m i : Nat} (G : LH Γ κx κm Ax Am o cJ b L xs) {R : (Nat → Option HO) → (Nat → Option HO) → Nat → Prop} (hRx : ∀ X M n, R X M n → hcls (X, n) a = some 10 ∧ hcls (M, n) ma = some 11) (hS : S_one R a ma) (hi : i + 5 < L) (hk : k + 110 ≤ 607560 ∧ m + 110 ≤ 7273423) (hRR : R X M n)
    (kk : ∀ X M n v, R X M n → J Γ 8 (HL κx κm Ax Am cJ o X M n v) (k + 110) (m + 110) 1188 [(0, .ref b), (1, .ref a), (2, .ref ma), (3, .ref o), (4, .int (Int32.ofNat i))] []) : J Γ 8 (HL κx κm Ax Am cJ o X M n v) k m 213 [(0, .ref b), (1, .ref a), (2, .ref ma), (3, .ref o), (4, .int (Int32.ofNat i))] [] := by
  have E := G.1
  have hLL : L ≤ 3072 := G.2.2.2.2.2.2.2.2.2.2.2.2.2.2.2
  obtain ⟨r, X1, n1, M1, n2, hfx, hfm, hR1⟩ := hS X M n (xs (Int32.ofNat i + Int32.ofInt 1).toNatClampNeg) (xs (Int32.ofNat i + Int32.ofInt 2).toNatClampNeg) hRR
  refine j_blk (pc' := 219) (lv' := [(0, .ref b), (1, .ref a), (2, .ref ma), (3, .ref o), (4, .int (Int32.ofNat i))]) (st' := [.int (Int32.ofNat i + Int32.ofInt 1), .ref b, .ref a]) E bl_213 rfl ?_
  refine j_sld G dl_219 (lw_in1 hi hLL) ?_
  refine j_blk (pc' := 225) (lv' := [(0, .ref b), (1, .ref a), (2, .ref ma), (3, .ref o), (4, .int (Int32.ofNat i))]) (st' := [.int (Int32.ofNat i + Int32.ofInt 2), .ref b, .int (xs (Int32.ofNat i + Int32.ofInt 1).toNatClampNeg), .ref a]) E bl_220 rfl ?_
  refine j_sld G dl_225 (lw_in2 hi hLL) ?_
  obtain ⟨hfx, hq1⟩ := pf_at hfx
  refine lw_cx (d := 3) (mc := 0) (ms := 0) [.int (xs (Int32.ofNat i + Int32.ofInt 1).toNatClampNeg), .int (xs (Int32.ofNat i + Int32.ofInt 2).toNatClampNeg)] [] (ov := some (.int r)) (X' := X1) (n' := n1) G w_RL_26 (by decide) (by rw [hq1]; exact c10_one _ κx Ax _ _ _ _ hfx) (hRx _ _ _ hRR).1 rfl rfl (Nat.le_of_ble_eq_true rfl) dl_226 (by omega) ?_
  show J Γ 8 _ _ _ _ _ [.int r]
  refine j_blk (pc' := 235) (lv' := [(0, .ref b), (1, .ref a), (2, .ref ma), (3, .ref o), (4, .int (Int32.ofNat i))]) (st' := [.int (Int32.ofNat i + Int32.ofInt 1), .ref b, .ref ma, .int r]) E bl_229 rfl ?_
  refine j_sld G dl_235 (lw_in1 hi hLL) ?_
  refine j_blk (pc' := 241) (lv' := [(0, .ref b), (1, .ref a), (2, .ref ma), (3, .ref o), (4, .int (Int32.ofNat i))]) (st' := [.int (Int32.ofNat i + Int32.ofInt 2), .ref b, .int (xs (Int32.ofNat i + Int32.ofInt 1).toNatClampNeg), .ref ma, .int r]) E bl_236 rfl ?_
  refine j_sld G dl_241 (lw_in2 hi hLL) ?_
  obtain ⟨hfm, hq2⟩ := pf_at hfm
  refine lw_cm (d := 2) (mc := 0) (ms := 0) [.int (xs (Int32.ofNat i + Int32.ofInt 1).toNatClampNeg), .int (xs (Int32.ofNat i + Int32.ofInt 2).toNatClampNeg)] [.int r] (ov := some (.int r)) (M' := M1) (n' := n2) G w_RL_30 (by decide) (by rw [hq2]; exact c11_one _ κm Am _ _ _ _ hfm) (show hcls (M, n1) ma = some 11 from (hRx _ _ _ hRR).2) rfl rfl (Nat.le_of_ble_eq_true rfl) dl_242 (by omega) ?_
  show J Γ 8 _ _ _ _ _ [.int r, .int r]
  refine j_icmp_eq (tgt := 1188) E dl_245 (by decide) (fun _ => j_wid (by omega) (by omega) (kk _ _ _ _ hR1)) (fun h => absurd rfl h)
/-- call 2 -/
def S_comes (R : (Nat → Option HO) → (Nat → Option HO) → Nat → Prop) (a ma : Nat) : Prop := ∀ (X M : Nat → Option HO) (n : Nat) (p1 : Int32), R X M n → ∃ (r : Int32) (X' : Nat → Option HO) (n' : Nat) (M' : Nat → Option HO) (n'' : Nat), f10_comes (X, n) a p1 = some (r, (X', n')) ∧ f11_comes (M, n') ma p1 = some (r, (M', n'')) ∧ R X' M' n''
theorem bl_250 : bdec cL_law 250 [.aload_n 1, .aload_n 0, .iload 4, .iconst 1, .iadd] = true := by decide +kernel
theorem dl_256 : decode cL_law 256 = .ok (.iaload, 1) := by decide +kernel
theorem dl_257 : decode cL_law 257 = .ok (.invokevirtual 31, 3) := by decide +kernel
theorem bl_260 : bdec cL_law 260 [.aload_n 2, .aload_n 0, .iload 4, .iconst 1, .iadd] = true := by decide +kernel
theorem dl_266 : decode cL_law 266 = .ok (.iaload, 1) := by decide +kernel
theorem dl_267 : decode cL_law 267 = .ok (.invokevirtual 34, 3) := by decide +kernel
theorem dl_270 : decode cL_law 270 = .ok (.if_icmp .eq 918, 3) := by decide +kernel
set_option maxRecDepth 100000 in
theorem lk_comes {Γ : JC} {κx κm : KP} {Ax Am : Nat → Prop} {o b L a ma : Nat} {cJ : ClassId} {xs : Nat → Int32} {X M : Nat → Option HO} {n : Nat} {v : Int64} {k m i : Nat} (G : LH Γ κx κm Ax Am o cJ b L xs) {R : (Nat → Option HO) → (Nat → Option HO) → Nat → Prop} (hRx : ∀ X M n, R X M n → hcls (X, n) a = some 10 ∧ hcls (M, n) ma = some 11) (hS : S_comes R a ma) (hi : i + 5 < L) (hk : k + 110 ≤ 607560 ∧ m + 110 ≤ 7273423) (hRR : R X M n)
    (kk : ∀ X M n v, R X M n → J Γ 8 (HL κx κm Ax Am cJ o X M n v) (k + 110) (m + 110) 1188 [(0, .ref b), (1, .ref a), (2, .ref ma), (3, .ref o), (4, .int (Int32.ofNat i))] []) : J Γ 8 (HL κx κm Ax Am cJ o X M n v) k m 250 [(0, .ref b), (1, .ref a), (2, .ref ma), (3, .ref o), (4, .int (Int32.ofNat i))] [] := by
  have E := G.1
  have hLL : L ≤ 3072 := G.2.2.2.2.2.2.2.2.2.2.2.2.2.2.2
  obtain ⟨r, X1, n1, M1, n2, hfx, hfm, hR1⟩ := hS X M n (xs (Int32.ofNat i + Int32.ofInt 1).toNatClampNeg) hRR
  refine j_blk (pc' := 256) (lv' := [(0, .ref b), (1, .ref a), (2, .ref ma), (3, .ref o), (4, .int (Int32.ofNat i))]) (st' := [.int (Int32.ofNat i + Int32.ofInt 1), .ref b, .ref a]) E bl_250 rfl ?_
  refine j_sld G dl_256 (lw_in1 hi hLL) ?_
  refine lw_cx (d := 4) (mc := 0) (ms := 0) [.int (xs (Int32.ofNat i + Int32.ofInt 1).toNatClampNeg)] [] (ov := some (.int r)) (X' := X1) (n' := n1) G w_RL_31 (by decide) (c10_comes _ κx Ax _ _ _ hfx) (hRx _ _ _ hRR).1 rfl rfl (Nat.le_of_ble_eq_true rfl) dl_257 (by omega) ?_
  show J Γ 8 _ _ _ _ _ [.int r]
  refine j_blk (pc' := 266) (lv' := [(0, .ref b), (1, .ref a), (2, .ref ma), (3, .ref o), (4, .int (Int32.ofNat i))]) (st' := [.int (Int32.ofNat i + Int32.ofInt 1), .ref b, .ref ma, .int r]) E bl_260 rfl ?_
  refine j_sld G dl_266 (lw_in1 hi hLL) ?_
  refine lw_cm (d := 3) (mc := 0) (ms := 0) [.int (xs (Int32.ofNat i + Int32.ofInt 1).toNatClampNeg)] [.int r] (ov := some (.int r)) (M' := M1) (n' := n2) G w_RL_34 (by decide) (c11_comes _ κm Am _ _ _ hfm) (show hcls (M, n1) ma = some 11 from (hRx _ _ _ hRR).2) rfl rfl (Nat.le_of_ble_eq_true rfl) dl_267 (by omega) ?_
  show J Γ 8 _ _ _ _ _ [.int r, .int r]
  refine j_icmp_eq (tgt := 1188) E dl_270 (by decide) (fun _ => j_wid (by omega) (by omega) (kk _ _ _ _ hR1)) (fun h => absurd rfl h)
/-- call 3 -/
def S_beat (R : (Nat → Option HO) → (Nat → Option HO) → Nat → Prop) (a ma : Nat) : Prop := ∀ (X M : Nat → Option HO) (n : Nat) (p1 : Int32) (p2 : Int32), R X M n → ∃ (r : Int32) (X' : Nat → Option HO) (n' : Nat) (M' : Nat → Option HO) (n'' : Nat), f10_beat (X, n) a p1 p2 = some (r, (X', n')) ∧ f11_beat (M, n') ma p1 p2 = some (r, (M', n'')) ∧ R X' M' n''
theorem bl_275 : bdec cL_law 275 [.aload_n 1, .aload_n 0, .iload 4, .iconst 1, .iadd] = true := by decide +kernel
theorem dl_281 : decode cL_law 281 = .ok (.iaload, 1) := by decide +kernel
theorem bl_282 : bdec cL_law 282 [.aload_n 0, .iload 4, .iconst 2, .iadd] = true := by decide +kernel
theorem dl_287 : decode cL_law 287 = .ok (.iaload, 1) := by decide +kernel
theorem dl_288 : decode cL_law 288 = .ok (.invokevirtual 35, 3) := by decide +kernel
theorem bl_291 : bdec cL_law 291 [.aload_n 2, .aload_n 0, .iload 4, .iconst 1, .iadd] = true := by decide +kernel
theorem dl_297 : decode cL_law 297 = .ok (.iaload, 1) := by decide +kernel
theorem bl_298 : bdec cL_law 298 [.aload_n 0, .iload 4, .iconst 2, .iadd] = true := by decide +kernel
theorem dl_303 : decode cL_law 303 = .ok (.iaload, 1) := by decide +kernel
theorem dl_304 : decode cL_law 304 = .ok (.invokevirtual 38, 3) := by decide +kernel
theorem dl_307 : decode cL_law 307 = .ok (.if_icmp .eq 881, 3) := by decide +kernel
set_option maxRecDepth 100000 in
theorem lk_beat {Γ : JC} {κx κm : KP} {Ax Am : Nat → Prop} {o b L a ma : Nat} {cJ : ClassId} {xs : Nat → Int32} {X M : Nat → Option HO} {n : Nat} {v : Int64} {k m i : Nat} (G : LH Γ κx κm Ax Am o cJ b L xs) {R : (Nat → Option HO) → (Nat → Option HO) → Nat → Prop} (hRx : ∀ X M n, R X M n → hcls (X, n) a = some 10 ∧ hcls (M, n) ma = some 11) (hS : S_beat R a ma) (hi : i + 5 < L) (hk : k + 110 ≤ 607560 ∧ m + 110 ≤ 7273423) (hRR : R X M n)
    (kk : ∀ X M n v, R X M n → J Γ 8 (HL κx κm Ax Am cJ o X M n v) (k + 110) (m + 110) 1188 [(0, .ref b), (1, .ref a), (2, .ref ma), (3, .ref o), (4, .int (Int32.ofNat i))] []) : J Γ 8 (HL κx κm Ax Am cJ o X M n v) k m 275 [(0, .ref b), (1, .ref a), (2, .ref ma), (3, .ref o), (4, .int (Int32.ofNat i))] [] := by
  have E := G.1
  have hLL : L ≤ 3072 := G.2.2.2.2.2.2.2.2.2.2.2.2.2.2.2
  obtain ⟨r, X1, n1, M1, n2, hfx, hfm, hR1⟩ := hS X M n (xs (Int32.ofNat i + Int32.ofInt 1).toNatClampNeg) (xs (Int32.ofNat i + Int32.ofInt 2).toNatClampNeg) hRR
  refine j_blk (pc' := 281) (lv' := [(0, .ref b), (1, .ref a), (2, .ref ma), (3, .ref o), (4, .int (Int32.ofNat i))]) (st' := [.int (Int32.ofNat i + Int32.ofInt 1), .ref b, .ref a]) E bl_275 rfl ?_
  refine j_sld G dl_281 (lw_in1 hi hLL) ?_
  refine j_blk (pc' := 287) (lv' := [(0, .ref b), (1, .ref a), (2, .ref ma), (3, .ref o), (4, .int (Int32.ofNat i))]) (st' := [.int (Int32.ofNat i + Int32.ofInt 2), .ref b, .int (xs (Int32.ofNat i + Int32.ofInt 1).toNatClampNeg), .ref a]) E bl_282 rfl ?_
  refine j_sld G dl_287 (lw_in2 hi hLL) ?_
  refine lw_cx (d := 2) (mc := 0) (ms := 0) [.int (xs (Int32.ofNat i + Int32.ofInt 1).toNatClampNeg), .int (xs (Int32.ofNat i + Int32.ofInt 2).toNatClampNeg)] [] (ov := some (.int r)) (X' := X1) (n' := n1) G w_RL_35 (by decide) (c10_beat _ κx Ax _ _ _ _ hfx) (hRx _ _ _ hRR).1 rfl rfl (Nat.le_of_ble_eq_true rfl) dl_288 (by omega) ?_
  show J Γ 8 _ _ _ _ _ [.int r]
  refine j_blk (pc' := 297) (lv' := [(0, .ref b), (1, .ref a), (2, .ref ma), (3, .ref o), (4, .int (Int32.ofNat i))]) (st' := [.int (Int32.ofNat i + Int32.ofInt 1), .ref b, .ref ma, .int r]) E bl_291 rfl ?_
  refine j_sld G dl_297 (lw_in1 hi hLL) ?_
  refine j_blk (pc' := 303) (lv' := [(0, .ref b), (1, .ref a), (2, .ref ma), (3, .ref o), (4, .int (Int32.ofNat i))]) (st' := [.int (Int32.ofNat i + Int32.ofInt 2), .ref b, .int (xs (Int32.ofNat i + Int32.ofInt 1).toNatClampNeg), .ref ma, .int r]) E bl_298 rfl ?_
  refine j_sld G dl_303 (lw_in2 hi hLL) ?_
  refine lw_cm (d := 3) (mc := 0) (ms := 0) [.int (xs (Int32.ofNat i + Int32.ofInt 1).toNatClampNeg), .int (xs (Int32.ofNat i + Int32.ofInt 2).toNatClampNeg)] [.int r] (ov := some (.int r)) (M' := M1) (n' := n2) G w_RL_38 (by decide) (c11_beat _ κm Am _ _ _ _ hfm) (show hcls (M, n1) ma = some 11 from (hRx _ _ _ hRR).2) rfl rfl (Nat.le_of_ble_eq_true rfl) dl_304 (by omega) ?_
  show J Γ 8 _ _ _ _ _ [.int r, .int r]
  refine j_icmp_eq (tgt := 1188) E dl_307 (by decide) (fun _ => j_wid (by omega) (by omega) (kk _ _ _ _ hR1)) (fun h => absurd rfl h)
/-- call 4 -/
def S_law (R : (Nat → Option HO) → (Nat → Option HO) → Nat → Prop) (a ma : Nat) : Prop := ∀ (X M : Nat → Option HO) (n : Nat) (p1 : Int32), R X M n → ∃ (r : Int32) (X' : Nat → Option HO) (n' : Nat) (M' : Nat → Option HO) (n'' : Nat), f10_law (X, n) a p1 = some (r, (X', n')) ∧ f11_law (M, n') ma p1 = some (r, (M', n'')) ∧ R X' M' n''
theorem bl_312 : bdec cL_law 312 [.aload_n 1, .aload_n 0, .iload 4, .iconst 1, .iadd] = true := by decide +kernel
theorem dl_318 : decode cL_law 318 = .ok (.iaload, 1) := by decide +kernel
theorem dl_319 : decode cL_law 319 = .ok (.invokevirtual 39, 3) := by decide +kernel
theorem bl_322 : bdec cL_law 322 [.aload_n 2, .aload_n 0, .iload 4, .iconst 1, .iadd] = true := by decide +kernel
theorem dl_328 : decode cL_law 328 = .ok (.iaload, 1) := by decide +kernel
theorem dl_329 : decode cL_law 329 = .ok (.invokevirtual 42, 3) := by decide +kernel
theorem dl_332 : decode cL_law 332 = .ok (.if_icmp .eq 856, 3) := by decide +kernel
set_option maxRecDepth 100000 in
theorem lk_law {Γ : JC} {κx κm : KP} {Ax Am : Nat → Prop} {o b L a ma : Nat} {cJ : ClassId} {xs : Nat → Int32} {X M : Nat → Option HO} {n : Nat} {v : Int64} {k m i : Nat} (G : LH Γ κx κm Ax Am o cJ b L xs) {R : (Nat → Option HO) → (Nat → Option HO) → Nat → Prop} (hRx : ∀ X M n, R X M n → hcls (X, n) a = some 10 ∧ hcls (M, n) ma = some 11) (hS : S_law R a ma) (hi : i + 5 < L) (hk : k + 110 ≤ 607560 ∧ m + 110 ≤ 7273423) (hRR : R X M n)
    (kk : ∀ X M n v, R X M n → J Γ 8 (HL κx κm Ax Am cJ o X M n v) (k + 110) (m + 110) 1188 [(0, .ref b), (1, .ref a), (2, .ref ma), (3, .ref o), (4, .int (Int32.ofNat i))] []) : J Γ 8 (HL κx κm Ax Am cJ o X M n v) k m 312 [(0, .ref b), (1, .ref a), (2, .ref ma), (3, .ref o), (4, .int (Int32.ofNat i))] [] := by
  have E := G.1
  have hLL : L ≤ 3072 := G.2.2.2.2.2.2.2.2.2.2.2.2.2.2.2
  obtain ⟨r, X1, n1, M1, n2, hfx, hfm, hR1⟩ := hS X M n (xs (Int32.ofNat i + Int32.ofInt 1).toNatClampNeg) hRR
  refine j_blk (pc' := 318) (lv' := [(0, .ref b), (1, .ref a), (2, .ref ma), (3, .ref o), (4, .int (Int32.ofNat i))]) (st' := [.int (Int32.ofNat i + Int32.ofInt 1), .ref b, .ref a]) E bl_312 rfl ?_
  refine j_sld G dl_318 (lw_in1 hi hLL) ?_
  refine lw_cx (d := 1) (mc := 0) (ms := 0) [.int (xs (Int32.ofNat i + Int32.ofInt 1).toNatClampNeg)] [] (ov := some (.int r)) (X' := X1) (n' := n1) G w_RL_39 (by decide) (c10_law _ κx Ax _ _ _ hfx) (hRx _ _ _ hRR).1 rfl rfl (Nat.le_of_ble_eq_true rfl) dl_319 (by omega) ?_
  show J Γ 8 _ _ _ _ _ [.int r]
  refine j_blk (pc' := 328) (lv' := [(0, .ref b), (1, .ref a), (2, .ref ma), (3, .ref o), (4, .int (Int32.ofNat i))]) (st' := [.int (Int32.ofNat i + Int32.ofInt 1), .ref b, .ref ma, .int r]) E bl_322 rfl ?_
  refine j_sld G dl_328 (lw_in1 hi hLL) ?_
  refine lw_cm (d := 2) (mc := 0) (ms := 0) [.int (xs (Int32.ofNat i + Int32.ofInt 1).toNatClampNeg)] [.int r] (ov := some (.int r)) (M' := M1) (n' := n2) G w_RL_42 (by decide) (c11_law _ κm Am _ _ _ hfm) (show hcls (M, n1) ma = some 11 from (hRx _ _ _ hRR).2) rfl rfl (Nat.le_of_ble_eq_true rfl) dl_329 (by omega) ?_
  show J Γ 8 _ _ _ _ _ [.int r, .int r]
  refine j_icmp_eq (tgt := 1188) E dl_332 (by decide) (fun _ => j_wid (by omega) (by omega) (kk _ _ _ _ hR1)) (fun h => absurd rfl h)
/-- call 5 -/
def S_lawful (R : (Nat → Option HO) → (Nat → Option HO) → Nat → Prop) (a ma : Nat) : Prop := ∀ (X M : Nat → Option HO) (n : Nat), R X M n → ∃ (r : Int32) (X' : Nat → Option HO) (n' : Nat) (M' : Nat → Option HO) (n'' : Nat), obd (f10_lawful (X, n) a) (fun r => some (r, (X, n))) = some (r, (X', n')) ∧ obd (f11_lawful (M, n') ma) (fun r => some (r, (M, n'))) = some (r, (M', n'')) ∧ R X' M' n''
theorem bl_337 : bdec cL_law 337 [.aload_n 1] = true := by decide +kernel
theorem dl_338 : decode cL_law 338 = .ok (.invokevirtual 43, 3) := by decide +kernel
theorem bl_341 : bdec cL_law 341 [.aload_n 2] = true := by decide +kernel
theorem dl_342 : decode cL_law 342 = .ok (.invokevirtual 47, 3) := by decide +kernel
theorem dl_345 : decode cL_law 345 = .ok (.if_icmp .eq 843, 3) := by decide +kernel
set_option maxRecDepth 100000 in
theorem lk_lawful {Γ : JC} {κx κm : KP} {Ax Am : Nat → Prop} {o b L a ma : Nat} {cJ : ClassId} {xs : Nat → Int32} {X M : Nat → Option HO} {n : Nat} {v : Int64} {k m i : Nat} (G : LH Γ κx κm Ax Am o cJ b L xs) {R : (Nat → Option HO) → (Nat → Option HO) → Nat → Prop} (hRx : ∀ X M n, R X M n → hcls (X, n) a = some 10 ∧ hcls (M, n) ma = some 11) (hS : S_lawful R a ma) (hi : i + 5 < L) (hk : k + 110 ≤ 607560 ∧ m + 110 ≤ 7273423) (hRR : R X M n)
    (kk : ∀ X M n v, R X M n → J Γ 8 (HL κx κm Ax Am cJ o X M n v) (k + 110) (m + 110) 1188 [(0, .ref b), (1, .ref a), (2, .ref ma), (3, .ref o), (4, .int (Int32.ofNat i))] []) : J Γ 8 (HL κx κm Ax Am cJ o X M n v) k m 337 [(0, .ref b), (1, .ref a), (2, .ref ma), (3, .ref o), (4, .int (Int32.ofNat i))] [] := by
  have E := G.1
  have hLL : L ≤ 3072 := G.2.2.2.2.2.2.2.2.2.2.2.2.2.2.2
  obtain ⟨r, X1, n1, M1, n2, hfx, hfm, hR1⟩ := hS X M n hRR
  refine j_blk (pc' := 338) (lv' := [(0, .ref b), (1, .ref a), (2, .ref ma), (3, .ref o), (4, .int (Int32.ofNat i))]) (st' := [.ref a]) E bl_337 rfl ?_
  obtain ⟨hfx, hq1⟩ := pf_at hfx
  refine lw_cx (d := 5) (mc := 0) (ms := 0) [] [] (ov := some (.int r)) (X' := X1) (n' := n1) G w_RL_43 (by decide) (by rw [hq1]; exact c10_lawful _ κx Ax _ _ hfx) (hRx _ _ _ hRR).1 rfl rfl (Nat.le_of_ble_eq_true rfl) dl_338 (by omega) ?_
  show J Γ 8 _ _ _ _ _ [.int r]
  refine j_blk (pc' := 342) (lv' := [(0, .ref b), (1, .ref a), (2, .ref ma), (3, .ref o), (4, .int (Int32.ofNat i))]) (st' := [.ref ma, .int r]) E bl_341 rfl ?_
  obtain ⟨hfm, hq2⟩ := pf_at hfm
  refine lw_cm (d := 4) (mc := 0) (ms := 0) [] [.int r] (ov := some (.int r)) (M' := M1) (n' := n2) G w_RL_47 (by decide) (by rw [hq2]; exact c11_lawful _ κm Am _ _ hfm) (show hcls (M, n1) ma = some 11 from (hRx _ _ _ hRR).2) rfl rfl (Nat.le_of_ble_eq_true rfl) dl_342 (by omega) ?_
  show J Γ 8 _ _ _ _ _ [.int r, .int r]
  refine j_icmp_eq (tgt := 1188) E dl_345 (by decide) (fun _ => j_wid (by omega) (by omega) (kk _ _ _ _ hR1)) (fun h => absurd rfl h)
/-- call 6 -/
def S_masters (R : (Nat → Option HO) → (Nat → Option HO) → Nat → Prop) (a ma : Nat) : Prop := ∀ (X M : Nat → Option HO) (n : Nat) (p1 : Int32) (p2 : Int32), R X M n → ∃ (r : Int32) (X' : Nat → Option HO) (n' : Nat) (M' : Nat → Option HO) (n'' : Nat), obd (f10_masters (X, n) a p1 p2) (fun r => some (r, (X, n))) = some (r, (X', n')) ∧ obd (f11_masters (M, n') ma p1 p2) (fun r => some (r, (M, n'))) = some (r, (M', n'')) ∧ R X' M' n''
theorem bl_350 : bdec cL_law 350 [.aload_n 1, .aload_n 0, .iload 4, .iconst 1, .iadd] = true := by decide +kernel
theorem dl_356 : decode cL_law 356 = .ok (.iaload, 1) := by decide +kernel
theorem bl_357 : bdec cL_law 357 [.aload_n 0, .iload 4, .iconst 2, .iadd] = true := by decide +kernel
theorem dl_362 : decode cL_law 362 = .ok (.iaload, 1) := by decide +kernel
theorem dl_363 : decode cL_law 363 = .ok (.invokevirtual 48, 3) := by decide +kernel
theorem bl_366 : bdec cL_law 366 [.aload_n 2, .aload_n 0, .iload 4, .iconst 1, .iadd] = true := by decide +kernel
theorem dl_372 : decode cL_law 372 = .ok (.iaload, 1) := by decide +kernel
theorem bl_373 : bdec cL_law 373 [.aload_n 0, .iload 4, .iconst 2, .iadd] = true := by decide +kernel
theorem dl_378 : decode cL_law 378 = .ok (.iaload, 1) := by decide +kernel
theorem dl_379 : decode cL_law 379 = .ok (.invokevirtual 51, 3) := by decide +kernel
theorem dl_382 : decode cL_law 382 = .ok (.if_icmp .eq 806, 3) := by decide +kernel
set_option maxRecDepth 100000 in
theorem lk_masters {Γ : JC} {κx κm : KP} {Ax Am : Nat → Prop} {o b L a ma : Nat} {cJ : ClassId} {xs : Nat → Int32} {X M : Nat → Option HO} {n : Nat} {v : Int64} {k m i : Nat} (G : LH Γ κx κm Ax Am o cJ b L xs) {R : (Nat → Option HO) → (Nat → Option HO) → Nat → Prop} (hRx : ∀ X M n, R X M n → hcls (X, n) a = some 10 ∧ hcls (M, n) ma = some 11) (hS : S_masters R a ma) (hi : i + 5 < L) (hk : k + 110 ≤ 607560 ∧ m + 110 ≤ 7273423) (hRR : R X M n)
    (kk : ∀ X M n v, R X M n → J Γ 8 (HL κx κm Ax Am cJ o X M n v) (k + 110) (m + 110) 1188 [(0, .ref b), (1, .ref a), (2, .ref ma), (3, .ref o), (4, .int (Int32.ofNat i))] []) : J Γ 8 (HL κx κm Ax Am cJ o X M n v) k m 350 [(0, .ref b), (1, .ref a), (2, .ref ma), (3, .ref o), (4, .int (Int32.ofNat i))] [] := by
  have E := G.1
  have hLL : L ≤ 3072 := G.2.2.2.2.2.2.2.2.2.2.2.2.2.2.2
  obtain ⟨r, X1, n1, M1, n2, hfx, hfm, hR1⟩ := hS X M n (xs (Int32.ofNat i + Int32.ofInt 1).toNatClampNeg) (xs (Int32.ofNat i + Int32.ofInt 2).toNatClampNeg) hRR
  refine j_blk (pc' := 356) (lv' := [(0, .ref b), (1, .ref a), (2, .ref ma), (3, .ref o), (4, .int (Int32.ofNat i))]) (st' := [.int (Int32.ofNat i + Int32.ofInt 1), .ref b, .ref a]) E bl_350 rfl ?_
  refine j_sld G dl_356 (lw_in1 hi hLL) ?_
  refine j_blk (pc' := 362) (lv' := [(0, .ref b), (1, .ref a), (2, .ref ma), (3, .ref o), (4, .int (Int32.ofNat i))]) (st' := [.int (Int32.ofNat i + Int32.ofInt 2), .ref b, .int (xs (Int32.ofNat i + Int32.ofInt 1).toNatClampNeg), .ref a]) E bl_357 rfl ?_
  refine j_sld G dl_362 (lw_in2 hi hLL) ?_
  obtain ⟨hfx, hq1⟩ := pf_at hfx
  refine lw_cx (d := 3) (mc := 0) (ms := 0) [.int (xs (Int32.ofNat i + Int32.ofInt 1).toNatClampNeg), .int (xs (Int32.ofNat i + Int32.ofInt 2).toNatClampNeg)] [] (ov := some (.int r)) (X' := X1) (n' := n1) G w_RL_48 (by decide) (by rw [hq1]; exact c10_masters _ κx Ax _ _ _ _ hfx) (hRx _ _ _ hRR).1 rfl rfl (Nat.le_of_ble_eq_true rfl) dl_363 (by omega) ?_
  show J Γ 8 _ _ _ _ _ [.int r]
  refine j_blk (pc' := 372) (lv' := [(0, .ref b), (1, .ref a), (2, .ref ma), (3, .ref o), (4, .int (Int32.ofNat i))]) (st' := [.int (Int32.ofNat i + Int32.ofInt 1), .ref b, .ref ma, .int r]) E bl_366 rfl ?_
  refine j_sld G dl_372 (lw_in1 hi hLL) ?_
  refine j_blk (pc' := 378) (lv' := [(0, .ref b), (1, .ref a), (2, .ref ma), (3, .ref o), (4, .int (Int32.ofNat i))]) (st' := [.int (Int32.ofNat i + Int32.ofInt 2), .ref b, .int (xs (Int32.ofNat i + Int32.ofInt 1).toNatClampNeg), .ref ma, .int r]) E bl_373 rfl ?_
  refine j_sld G dl_378 (lw_in2 hi hLL) ?_
  obtain ⟨hfm, hq2⟩ := pf_at hfm
  refine lw_cm (d := 3) (mc := 0) (ms := 0) [.int (xs (Int32.ofNat i + Int32.ofInt 1).toNatClampNeg), .int (xs (Int32.ofNat i + Int32.ofInt 2).toNatClampNeg)] [.int r] (ov := some (.int r)) (M' := M1) (n' := n2) G w_RL_51 (by decide) (by rw [hq2]; exact c11_masters _ κm Am _ _ _ _ hfm) (show hcls (M, n1) ma = some 11 from (hRx _ _ _ hRR).2) rfl rfl (Nat.le_of_ble_eq_true rfl) dl_379 (by omega) ?_
  show J Γ 8 _ _ _ _ _ [.int r, .int r]
  refine j_icmp_eq (tgt := 1188) E dl_382 (by decide) (fun _ => j_wid (by omega) (by omega) (kk _ _ _ _ hR1)) (fun h => absurd rfl h)
/-- call 7 -/
def S_orphans (R : (Nat → Option HO) → (Nat → Option HO) → Nat → Prop) (a ma : Nat) : Prop := ∀ (X M : Nat → Option HO) (n : Nat) (p1 : Int32), R X M n → ∃ (r : Int32) (X' : Nat → Option HO) (n' : Nat) (M' : Nat → Option HO) (n'' : Nat), obd (f10_orphans (X, n) a p1) (fun r => some (r, (X, n))) = some (r, (X', n')) ∧ obd (f11_orphans (M, n') ma p1) (fun r => some (r, (M, n'))) = some (r, (M', n'')) ∧ R X' M' n''
theorem bl_387 : bdec cL_law 387 [.aload_n 1, .aload_n 0, .iload 4, .iconst 1, .iadd] = true := by decide +kernel
theorem dl_393 : decode cL_law 393 = .ok (.iaload, 1) := by decide +kernel
theorem dl_394 : decode cL_law 394 = .ok (.invokevirtual 52, 3) := by decide +kernel
theorem bl_397 : bdec cL_law 397 [.aload_n 2, .aload_n 0, .iload 4, .iconst 1, .iadd] = true := by decide +kernel
theorem dl_403 : decode cL_law 403 = .ok (.iaload, 1) := by decide +kernel
theorem dl_404 : decode cL_law 404 = .ok (.invokevirtual 55, 3) := by decide +kernel
theorem dl_407 : decode cL_law 407 = .ok (.if_icmp .eq 781, 3) := by decide +kernel
set_option maxRecDepth 100000 in
theorem lk_orphans {Γ : JC} {κx κm : KP} {Ax Am : Nat → Prop} {o b L a ma : Nat} {cJ : ClassId} {xs : Nat → Int32} {X M : Nat → Option HO} {n : Nat} {v : Int64} {k m i : Nat} (G : LH Γ κx κm Ax Am o cJ b L xs) {R : (Nat → Option HO) → (Nat → Option HO) → Nat → Prop} (hRx : ∀ X M n, R X M n → hcls (X, n) a = some 10 ∧ hcls (M, n) ma = some 11) (hS : S_orphans R a ma) (hi : i + 5 < L) (hk : k + 110 ≤ 607560 ∧ m + 110 ≤ 7273423) (hRR : R X M n)
    (kk : ∀ X M n v, R X M n → J Γ 8 (HL κx κm Ax Am cJ o X M n v) (k + 110) (m + 110) 1188 [(0, .ref b), (1, .ref a), (2, .ref ma), (3, .ref o), (4, .int (Int32.ofNat i))] []) : J Γ 8 (HL κx κm Ax Am cJ o X M n v) k m 387 [(0, .ref b), (1, .ref a), (2, .ref ma), (3, .ref o), (4, .int (Int32.ofNat i))] [] := by
  have E := G.1
  have hLL : L ≤ 3072 := G.2.2.2.2.2.2.2.2.2.2.2.2.2.2.2
  obtain ⟨r, X1, n1, M1, n2, hfx, hfm, hR1⟩ := hS X M n (xs (Int32.ofNat i + Int32.ofInt 1).toNatClampNeg) hRR
  refine j_blk (pc' := 393) (lv' := [(0, .ref b), (1, .ref a), (2, .ref ma), (3, .ref o), (4, .int (Int32.ofNat i))]) (st' := [.int (Int32.ofNat i + Int32.ofInt 1), .ref b, .ref a]) E bl_387 rfl ?_
  refine j_sld G dl_393 (lw_in1 hi hLL) ?_
  obtain ⟨hfx, hq1⟩ := pf_at hfx
  refine lw_cx (d := 4) (mc := 0) (ms := 0) [.int (xs (Int32.ofNat i + Int32.ofInt 1).toNatClampNeg)] [] (ov := some (.int r)) (X' := X1) (n' := n1) G w_RL_52 (by decide) (by rw [hq1]; exact c10_orphans _ κx Ax _ _ _ hfx) (hRx _ _ _ hRR).1 rfl rfl (Nat.le_of_ble_eq_true rfl) dl_394 (by omega) ?_
  show J Γ 8 _ _ _ _ _ [.int r]
  refine j_blk (pc' := 403) (lv' := [(0, .ref b), (1, .ref a), (2, .ref ma), (3, .ref o), (4, .int (Int32.ofNat i))]) (st' := [.int (Int32.ofNat i + Int32.ofInt 1), .ref b, .ref ma, .int r]) E bl_397 rfl ?_
  refine j_sld G dl_403 (lw_in1 hi hLL) ?_
  obtain ⟨hfm, hq2⟩ := pf_at hfm
  refine lw_cm (d := 3) (mc := 0) (ms := 0) [.int (xs (Int32.ofNat i + Int32.ofInt 1).toNatClampNeg)] [.int r] (ov := some (.int r)) (M' := M1) (n' := n2) G w_RL_55 (by decide) (by rw [hq2]; exact c11_orphans _ κm Am _ _ _ hfm) (show hcls (M, n1) ma = some 11 from (hRx _ _ _ hRR).2) rfl rfl (Nat.le_of_ble_eq_true rfl) dl_404 (by omega) ?_
  show J Γ 8 _ _ _ _ _ [.int r, .int r]
  refine j_icmp_eq (tgt := 1188) E dl_407 (by decide) (fun _ => j_wid (by omega) (by omega) (kk _ _ _ _ hR1)) (fun h => absurd rfl h)
/-- call 8 -/
def S_holding (R : (Nat → Option HO) → (Nat → Option HO) → Nat → Prop) (a ma : Nat) : Prop := ∀ (X M : Nat → Option HO) (n : Nat), R X M n → ∃ (r : Int32) (X' : Nat → Option HO) (n' : Nat) (M' : Nat → Option HO) (n'' : Nat), f10_holding (X, n) a = some (r, (X', n')) ∧ f11_holding (M, n') ma = some (r, (M', n'')) ∧ R X' M' n''
theorem bl_412 : bdec cL_law 412 [.aload_n 1] = true := by decide +kernel
theorem dl_413 : decode cL_law 413 = .ok (.invokevirtual 56, 3) := by decide +kernel
theorem bl_416 : bdec cL_law 416 [.aload_n 2] = true := by decide +kernel
theorem dl_417 : decode cL_law 417 = .ok (.invokevirtual 59, 3) := by decide +kernel
theorem dl_420 : decode cL_law 420 = .ok (.if_icmp .eq 768, 3) := by decide +kernel
set_option maxRecDepth 100000 in
theorem lk_holding {Γ : JC} {κx κm : KP} {Ax Am : Nat → Prop} {o b L a ma : Nat} {cJ : ClassId} {xs : Nat → Int32} {X M : Nat → Option HO} {n : Nat} {v : Int64} {k m i : Nat} (G : LH Γ κx κm Ax Am o cJ b L xs) {R : (Nat → Option HO) → (Nat → Option HO) → Nat → Prop} (hRx : ∀ X M n, R X M n → hcls (X, n) a = some 10 ∧ hcls (M, n) ma = some 11) (hS : S_holding R a ma) (hi : i + 5 < L) (hk : k + 110 ≤ 607560 ∧ m + 110 ≤ 7273423) (hRR : R X M n)
    (kk : ∀ X M n v, R X M n → J Γ 8 (HL κx κm Ax Am cJ o X M n v) (k + 110) (m + 110) 1188 [(0, .ref b), (1, .ref a), (2, .ref ma), (3, .ref o), (4, .int (Int32.ofNat i))] []) : J Γ 8 (HL κx κm Ax Am cJ o X M n v) k m 412 [(0, .ref b), (1, .ref a), (2, .ref ma), (3, .ref o), (4, .int (Int32.ofNat i))] [] := by
  have E := G.1
  have hLL : L ≤ 3072 := G.2.2.2.2.2.2.2.2.2.2.2.2.2.2.2
  obtain ⟨r, X1, n1, M1, n2, hfx, hfm, hR1⟩ := hS X M n hRR
  refine j_blk (pc' := 413) (lv' := [(0, .ref b), (1, .ref a), (2, .ref ma), (3, .ref o), (4, .int (Int32.ofNat i))]) (st' := [.ref a]) E bl_412 rfl ?_
  refine lw_cx (d := 6) (mc := 0) (ms := 0) [] [] (ov := some (.int r)) (X' := X1) (n' := n1) G w_RL_56 (by decide) (c10_holding _ κx Ax _ _ hfx) (hRx _ _ _ hRR).1 rfl rfl (Nat.le_of_ble_eq_true rfl) dl_413 (by omega) ?_
  show J Γ 8 _ _ _ _ _ [.int r]
  refine j_blk (pc' := 417) (lv' := [(0, .ref b), (1, .ref a), (2, .ref ma), (3, .ref o), (4, .int (Int32.ofNat i))]) (st' := [.ref ma, .int r]) E bl_416 rfl ?_
  refine lw_cm (d := 5) (mc := 0) (ms := 0) [] [.int r] (ov := some (.int r)) (M' := M1) (n' := n2) G w_RL_59 (by decide) (c11_holding _ κm Am _ _ hfm) (show hcls (M, n1) ma = some 11 from (hRx _ _ _ hRR).2) rfl rfl (Nat.le_of_ble_eq_true rfl) dl_417 (by omega) ?_
  show J Γ 8 _ _ _ _ _ [.int r, .int r]
  refine j_icmp_eq (tgt := 1188) E dl_420 (by decide) (fun _ => j_wid (by omega) (by omega) (kk _ _ _ _ hR1)) (fun h => absurd rfl h)
/-- call 9 -/
def S_free (R : (Nat → Option HO) → (Nat → Option HO) → Nat → Prop) (a ma : Nat) : Prop := ∀ (X M : Nat → Option HO) (n : Nat), R X M n → ∃ (r : Int32) (X' : Nat → Option HO) (n' : Nat) (M' : Nat → Option HO) (n'' : Nat), f10_free (X, n) a = some (r, (X', n')) ∧ f11_free (M, n') ma = some (r, (M', n'')) ∧ R X' M' n''
theorem bl_425 : bdec cL_law 425 [.aload_n 1] = true := by decide +kernel
theorem dl_426 : decode cL_law 426 = .ok (.invokevirtual 60, 3) := by decide +kernel
theorem bl_429 : bdec cL_law 429 [.aload_n 2] = true := by decide +kernel
theorem dl_430 : decode cL_law 430 = .ok (.invokevirtual 63, 3) := by decide +kernel
theorem dl_433 : decode cL_law 433 = .ok (.if_icmp .eq 755, 3) := by decide +kernel
set_option maxRecDepth 100000 in
theorem lk_free {Γ : JC} {κx κm : KP} {Ax Am : Nat → Prop} {o b L a ma : Nat} {cJ : ClassId} {xs : Nat → Int32} {X M : Nat → Option HO} {n : Nat} {v : Int64} {k m i : Nat} (G : LH Γ κx κm Ax Am o cJ b L xs) {R : (Nat → Option HO) → (Nat → Option HO) → Nat → Prop} (hRx : ∀ X M n, R X M n → hcls (X, n) a = some 10 ∧ hcls (M, n) ma = some 11) (hS : S_free R a ma) (hi : i + 5 < L) (hk : k + 110 ≤ 607560 ∧ m + 110 ≤ 7273423) (hRR : R X M n)
    (kk : ∀ X M n v, R X M n → J Γ 8 (HL κx κm Ax Am cJ o X M n v) (k + 110) (m + 110) 1188 [(0, .ref b), (1, .ref a), (2, .ref ma), (3, .ref o), (4, .int (Int32.ofNat i))] []) : J Γ 8 (HL κx κm Ax Am cJ o X M n v) k m 425 [(0, .ref b), (1, .ref a), (2, .ref ma), (3, .ref o), (4, .int (Int32.ofNat i))] [] := by
  have E := G.1
  have hLL : L ≤ 3072 := G.2.2.2.2.2.2.2.2.2.2.2.2.2.2.2
  obtain ⟨r, X1, n1, M1, n2, hfx, hfm, hR1⟩ := hS X M n hRR
  refine j_blk (pc' := 426) (lv' := [(0, .ref b), (1, .ref a), (2, .ref ma), (3, .ref o), (4, .int (Int32.ofNat i))]) (st' := [.ref a]) E bl_425 rfl ?_
  refine lw_cx (d := 6) (mc := 0) (ms := 0) [] [] (ov := some (.int r)) (X' := X1) (n' := n1) G w_RL_60 (by decide) (c10_free _ κx Ax _ _ hfx) (hRx _ _ _ hRR).1 rfl rfl (Nat.le_of_ble_eq_true rfl) dl_426 (by omega) ?_
  show J Γ 8 _ _ _ _ _ [.int r]
  refine j_blk (pc' := 430) (lv' := [(0, .ref b), (1, .ref a), (2, .ref ma), (3, .ref o), (4, .int (Int32.ofNat i))]) (st' := [.ref ma, .int r]) E bl_429 rfl ?_
  refine lw_cm (d := 5) (mc := 0) (ms := 0) [] [.int r] (ov := some (.int r)) (M' := M1) (n' := n2) G w_RL_63 (by decide) (c11_free _ κm Am _ _ hfm) (show hcls (M, n1) ma = some 11 from (hRx _ _ _ hRR).2) rfl rfl (Nat.le_of_ble_eq_true rfl) dl_430 (by omega) ?_
  show J Γ 8 _ _ _ _ _ [.int r, .int r]
  refine j_icmp_eq (tgt := 1188) E dl_433 (by decide) (fun _ => j_wid (by omega) (by omega) (kk _ _ _ _ hR1)) (fun h => absurd rfl h)
/-- call 10 -/
def S_rings (R : (Nat → Option HO) → (Nat → Option HO) → Nat → Prop) (a ma : Nat) : Prop := ∀ (X M : Nat → Option HO) (n : Nat), R X M n → ∃ (r : Int32) (X' : Nat → Option HO) (n' : Nat) (M' : Nat → Option HO) (n'' : Nat), obd (f10_rings (X, n) a) (fun r => some (r, (X, n))) = some (r, (X', n')) ∧ obd (f11_rings (M, n') ma) (fun r => some (r, (M, n'))) = some (r, (M', n'')) ∧ R X' M' n''
theorem bl_438 : bdec cL_law 438 [.aload_n 1] = true := by decide +kernel
theorem dl_439 : decode cL_law 439 = .ok (.invokevirtual 64, 3) := by decide +kernel
theorem bl_442 : bdec cL_law 442 [.aload_n 2] = true := by decide +kernel
theorem dl_443 : decode cL_law 443 = .ok (.invokevirtual 67, 3) := by decide +kernel
theorem dl_446 : decode cL_law 446 = .ok (.if_icmp .eq 742, 3) := by decide +kernel
set_option maxRecDepth 100000 in
theorem lk_rings {Γ : JC} {κx κm : KP} {Ax Am : Nat → Prop} {o b L a ma : Nat} {cJ : ClassId} {xs : Nat → Int32} {X M : Nat → Option HO} {n : Nat} {v : Int64} {k m i : Nat} (G : LH Γ κx κm Ax Am o cJ b L xs) {R : (Nat → Option HO) → (Nat → Option HO) → Nat → Prop} (hRx : ∀ X M n, R X M n → hcls (X, n) a = some 10 ∧ hcls (M, n) ma = some 11) (hS : S_rings R a ma) (hi : i + 5 < L) (hk : k + 110 ≤ 607560 ∧ m + 110 ≤ 7273423) (hRR : R X M n)
    (kk : ∀ X M n v, R X M n → J Γ 8 (HL κx κm Ax Am cJ o X M n v) (k + 110) (m + 110) 1188 [(0, .ref b), (1, .ref a), (2, .ref ma), (3, .ref o), (4, .int (Int32.ofNat i))] []) : J Γ 8 (HL κx κm Ax Am cJ o X M n v) k m 438 [(0, .ref b), (1, .ref a), (2, .ref ma), (3, .ref o), (4, .int (Int32.ofNat i))] [] := by
  have E := G.1
  have hLL : L ≤ 3072 := G.2.2.2.2.2.2.2.2.2.2.2.2.2.2.2
  obtain ⟨r, X1, n1, M1, n2, hfx, hfm, hR1⟩ := hS X M n hRR
  refine j_blk (pc' := 439) (lv' := [(0, .ref b), (1, .ref a), (2, .ref ma), (3, .ref o), (4, .int (Int32.ofNat i))]) (st' := [.ref a]) E bl_438 rfl ?_
  obtain ⟨hfx, hq1⟩ := pf_at hfx
  refine lw_cx (d := 2) (mc := 0) (ms := 0) [] [] (ov := some (.int r)) (X' := X1) (n' := n1) G w_RL_64 (by decide) (by rw [hq1]; exact c10_rings _ κx Ax _ _ hfx) (hRx _ _ _ hRR).1 rfl rfl (Nat.le_of_ble_eq_true rfl) dl_439 (by omega) ?_
  show J Γ 8 _ _ _ _ _ [.int r]
  refine j_blk (pc' := 443) (lv' := [(0, .ref b), (1, .ref a), (2, .ref ma), (3, .ref o), (4, .int (Int32.ofNat i))]) (st' := [.ref ma, .int r]) E bl_442 rfl ?_
  obtain ⟨hfm, hq2⟩ := pf_at hfm
  refine lw_cm (d := 1) (mc := 0) (ms := 0) [] [.int r] (ov := some (.int r)) (M' := M1) (n' := n2) G w_RL_67 (by decide) (by rw [hq2]; exact c11_rings _ κm Am _ _ hfm) (show hcls (M, n1) ma = some 11 from (hRx _ _ _ hRR).2) rfl rfl (Nat.le_of_ble_eq_true rfl) dl_443 (by omega) ?_
  show J Γ 8 _ _ _ _ _ [.int r, .int r]
  refine j_icmp_eq (tgt := 1188) E dl_446 (by decide) (fun _ => j_wid (by omega) (by omega) (kk _ _ _ _ hR1)) (fun h => absurd rfl h)
/-- call 11 -/
def S_cup (R : (Nat → Option HO) → (Nat → Option HO) → Nat → Prop) (a ma : Nat) : Prop := ∀ (X M : Nat → Option HO) (n : Nat), R X M n → ∃ (r : Int32) (X' : Nat → Option HO) (n' : Nat) (M' : Nat → Option HO) (n'' : Nat), obd (f10_cup (X, n) a) (fun r => some (r, (X, n))) = some (r, (X', n')) ∧ obd (f11_cup (M, n') ma) (fun r => some (r, (M, n'))) = some (r, (M', n'')) ∧ R X' M' n''
theorem bl_451 : bdec cL_law 451 [.aload_n 1] = true := by decide +kernel
theorem dl_452 : decode cL_law 452 = .ok (.invokevirtual 68, 3) := by decide +kernel
theorem bl_455 : bdec cL_law 455 [.aload_n 2] = true := by decide +kernel
theorem dl_456 : decode cL_law 456 = .ok (.invokevirtual 71, 3) := by decide +kernel
theorem dl_459 : decode cL_law 459 = .ok (.if_icmp .eq 729, 3) := by decide +kernel
set_option maxRecDepth 100000 in
theorem lk_cup {Γ : JC} {κx κm : KP} {Ax Am : Nat → Prop} {o b L a ma : Nat} {cJ : ClassId} {xs : Nat → Int32} {X M : Nat → Option HO} {n : Nat} {v : Int64} {k m i : Nat} (G : LH Γ κx κm Ax Am o cJ b L xs) {R : (Nat → Option HO) → (Nat → Option HO) → Nat → Prop} (hRx : ∀ X M n, R X M n → hcls (X, n) a = some 10 ∧ hcls (M, n) ma = some 11) (hS : S_cup R a ma) (hi : i + 5 < L) (hk : k + 110 ≤ 607560 ∧ m + 110 ≤ 7273423) (hRR : R X M n)
    (kk : ∀ X M n v, R X M n → J Γ 8 (HL κx κm Ax Am cJ o X M n v) (k + 110) (m + 110) 1188 [(0, .ref b), (1, .ref a), (2, .ref ma), (3, .ref o), (4, .int (Int32.ofNat i))] []) : J Γ 8 (HL κx κm Ax Am cJ o X M n v) k m 451 [(0, .ref b), (1, .ref a), (2, .ref ma), (3, .ref o), (4, .int (Int32.ofNat i))] [] := by
  have E := G.1
  have hLL : L ≤ 3072 := G.2.2.2.2.2.2.2.2.2.2.2.2.2.2.2
  obtain ⟨r, X1, n1, M1, n2, hfx, hfm, hR1⟩ := hS X M n hRR
  refine j_blk (pc' := 452) (lv' := [(0, .ref b), (1, .ref a), (2, .ref ma), (3, .ref o), (4, .int (Int32.ofNat i))]) (st' := [.ref a]) E bl_451 rfl ?_
  obtain ⟨hfx, hq1⟩ := pf_at hfx
  refine lw_cx (d := 1) (mc := 0) (ms := 0) [] [] (ov := some (.int r)) (X' := X1) (n' := n1) G w_RL_68 (by decide) (by rw [hq1]; exact c10_cup _ κx Ax _ _ hfx) (hRx _ _ _ hRR).1 rfl rfl (Nat.le_of_ble_eq_true rfl) dl_452 (by omega) ?_
  show J Γ 8 _ _ _ _ _ [.int r]
  refine j_blk (pc' := 456) (lv' := [(0, .ref b), (1, .ref a), (2, .ref ma), (3, .ref o), (4, .int (Int32.ofNat i))]) (st' := [.ref ma, .int r]) E bl_455 rfl ?_
  obtain ⟨hfm, hq2⟩ := pf_at hfm
  refine lw_cm (d := 1) (mc := 0) (ms := 0) [] [.int r] (ov := some (.int r)) (M' := M1) (n' := n2) G w_RL_71 (by decide) (by rw [hq2]; exact c11_cup _ κm Am _ _ hfm) (show hcls (M, n1) ma = some 11 from (hRx _ _ _ hRR).2) rfl rfl (Nat.le_of_ble_eq_true rfl) dl_456 (by omega) ?_
  show J Γ 8 _ _ _ _ _ [.int r, .int r]
  refine j_icmp_eq (tgt := 1188) E dl_459 (by decide) (fun _ => j_wid (by omega) (by omega) (kk _ _ _ _ hR1)) (fun h => absurd rfl h)
/-- call 12 -/
def S_right (R : (Nat → Option HO) → (Nat → Option HO) → Nat → Prop) (a ma : Nat) : Prop := ∀ (X M : Nat → Option HO) (n : Nat), R X M n → ∃ (r : Int32) (X' : Nat → Option HO) (n' : Nat) (M' : Nat → Option HO) (n'' : Nat), f10_right (X, n) a = some (r, (X', n')) ∧ f11_right (M, n') ma = some (r, (M', n'')) ∧ R X' M' n''
theorem bl_464 : bdec cL_law 464 [.aload_n 1] = true := by decide +kernel
theorem dl_465 : decode cL_law 465 = .ok (.invokevirtual 72, 3) := by decide +kernel
theorem bl_468 : bdec cL_law 468 [.aload_n 2] = true := by decide +kernel
theorem dl_469 : decode cL_law 469 = .ok (.invokevirtual 75, 3) := by decide +kernel
theorem dl_472 : decode cL_law 472 = .ok (.if_icmp .eq 716, 3) := by decide +kernel
set_option maxRecDepth 100000 in
theorem lk_right {Γ : JC} {κx κm : KP} {Ax Am : Nat → Prop} {o b L a ma : Nat} {cJ : ClassId} {xs : Nat → Int32} {X M : Nat → Option HO} {n : Nat} {v : Int64} {k m i : Nat} (G : LH Γ κx κm Ax Am o cJ b L xs) {R : (Nat → Option HO) → (Nat → Option HO) → Nat → Prop} (hRx : ∀ X M n, R X M n → hcls (X, n) a = some 10 ∧ hcls (M, n) ma = some 11) (hS : S_right R a ma) (hi : i + 5 < L) (hk : k + 110 ≤ 607560 ∧ m + 110 ≤ 7273423) (hRR : R X M n)
    (kk : ∀ X M n v, R X M n → J Γ 8 (HL κx κm Ax Am cJ o X M n v) (k + 110) (m + 110) 1188 [(0, .ref b), (1, .ref a), (2, .ref ma), (3, .ref o), (4, .int (Int32.ofNat i))] []) : J Γ 8 (HL κx κm Ax Am cJ o X M n v) k m 464 [(0, .ref b), (1, .ref a), (2, .ref ma), (3, .ref o), (4, .int (Int32.ofNat i))] [] := by
  have E := G.1
  have hLL : L ≤ 3072 := G.2.2.2.2.2.2.2.2.2.2.2.2.2.2.2
  obtain ⟨r, X1, n1, M1, n2, hfx, hfm, hR1⟩ := hS X M n hRR
  refine j_blk (pc' := 465) (lv' := [(0, .ref b), (1, .ref a), (2, .ref ma), (3, .ref o), (4, .int (Int32.ofNat i))]) (st' := [.ref a]) E bl_464 rfl ?_
  refine lw_cx (d := 11) (mc := 0) (ms := 0) [] [] (ov := some (.int r)) (X' := X1) (n' := n1) G w_RL_72 (by decide) (c10_right _ κx Ax _ _ hfx) (hRx _ _ _ hRR).1 rfl rfl (Nat.le_of_ble_eq_true rfl) dl_465 (by omega) ?_
  show J Γ 8 _ _ _ _ _ [.int r]
  refine j_blk (pc' := 469) (lv' := [(0, .ref b), (1, .ref a), (2, .ref ma), (3, .ref o), (4, .int (Int32.ofNat i))]) (st' := [.ref ma, .int r]) E bl_468 rfl ?_
  refine lw_cm (d := 11) (mc := 0) (ms := 0) [] [.int r] (ov := some (.int r)) (M' := M1) (n' := n2) G w_RL_75 (by decide) (c11_right _ κm Am _ _ hfm) (show hcls (M, n1) ma = some 11 from (hRx _ _ _ hRR).2) rfl rfl (Nat.le_of_ble_eq_true rfl) dl_469 (by omega) ?_
  show J Γ 8 _ _ _ _ _ [.int r, .int r]
  refine j_icmp_eq (tgt := 1188) E dl_472 (by decide) (fun _ => j_wid (by omega) (by omega) (kk _ _ _ _ hR1)) (fun h => absurd rfl h)
/-- call 13 -/
def S_cheapest (R : (Nat → Option HO) → (Nat → Option HO) → Nat → Prop) (a ma : Nat) : Prop := ∀ (X M : Nat → Option HO) (n : Nat), R X M n → ∃ (r : Int32) (X' : Nat → Option HO) (n' : Nat) (M' : Nat → Option HO) (n'' : Nat), f10_cheapest (X, n) a = some (r, (X', n')) ∧ f11_cheapest (M, n') ma = some (r, (M', n'')) ∧ R X' M' n''
theorem bl_477 : bdec cL_law 477 [.aload_n 1] = true := by decide +kernel
theorem dl_478 : decode cL_law 478 = .ok (.invokevirtual 76, 3) := by decide +kernel
theorem bl_481 : bdec cL_law 481 [.aload_n 2] = true := by decide +kernel
theorem dl_482 : decode cL_law 482 = .ok (.invokevirtual 79, 3) := by decide +kernel
theorem dl_485 : decode cL_law 485 = .ok (.if_icmp .eq 703, 3) := by decide +kernel
set_option maxRecDepth 100000 in
theorem lk_cheapest {Γ : JC} {κx κm : KP} {Ax Am : Nat → Prop} {o b L a ma : Nat} {cJ : ClassId} {xs : Nat → Int32} {X M : Nat → Option HO} {n : Nat} {v : Int64} {k m i : Nat} (G : LH Γ κx κm Ax Am o cJ b L xs) {R : (Nat → Option HO) → (Nat → Option HO) → Nat → Prop} (hRx : ∀ X M n, R X M n → hcls (X, n) a = some 10 ∧ hcls (M, n) ma = some 11) (hS : S_cheapest R a ma) (hi : i + 5 < L) (hk : k + 110 ≤ 607560 ∧ m + 110 ≤ 7273423) (hRR : R X M n)
    (kk : ∀ X M n v, R X M n → J Γ 8 (HL κx κm Ax Am cJ o X M n v) (k + 110) (m + 110) 1188 [(0, .ref b), (1, .ref a), (2, .ref ma), (3, .ref o), (4, .int (Int32.ofNat i))] []) : J Γ 8 (HL κx κm Ax Am cJ o X M n v) k m 477 [(0, .ref b), (1, .ref a), (2, .ref ma), (3, .ref o), (4, .int (Int32.ofNat i))] [] := by
  have E := G.1
  have hLL : L ≤ 3072 := G.2.2.2.2.2.2.2.2.2.2.2.2.2.2.2
  obtain ⟨r, X1, n1, M1, n2, hfx, hfm, hR1⟩ := hS X M n hRR
  refine j_blk (pc' := 478) (lv' := [(0, .ref b), (1, .ref a), (2, .ref ma), (3, .ref o), (4, .int (Int32.ofNat i))]) (st' := [.ref a]) E bl_477 rfl ?_
  refine lw_cx (d := 11) (mc := 0) (ms := 0) [] [] (ov := some (.int r)) (X' := X1) (n' := n1) G w_RL_76 (by decide) (c10_cheapest _ κx Ax _ _ hfx) (hRx _ _ _ hRR).1 rfl rfl (Nat.le_of_ble_eq_true rfl) dl_478 (by omega) ?_
  show J Γ 8 _ _ _ _ _ [.int r]
  refine j_blk (pc' := 482) (lv' := [(0, .ref b), (1, .ref a), (2, .ref ma), (3, .ref o), (4, .int (Int32.ofNat i))]) (st' := [.ref ma, .int r]) E bl_481 rfl ?_
  refine lw_cm (d := 11) (mc := 0) (ms := 0) [] [.int r] (ov := some (.int r)) (M' := M1) (n' := n2) G w_RL_79 (by decide) (c11_cheapest _ κm Am _ _ hfm) (show hcls (M, n1) ma = some 11 from (hRx _ _ _ hRR).2) rfl rfl (Nat.le_of_ble_eq_true rfl) dl_482 (by omega) ?_
  show J Γ 8 _ _ _ _ _ [.int r, .int r]
  refine j_icmp_eq (tgt := 1188) E dl_485 (by decide) (fun _ => j_wid (by omega) (by omega) (kk _ _ _ _ hR1)) (fun h => absurd rfl h)
/-- call 14 -/
def S_fresh (R : (Nat → Option HO) → (Nat → Option HO) → Nat → Prop) (a ma : Nat) : Prop := ∀ (X M : Nat → Option HO) (n : Nat) (p1 : Int32) (p2 : Int32) (p3 : Int32), R X M n → ∃ (r : Int32) (X' : Nat → Option HO) (n' : Nat) (M' : Nat → Option HO) (n'' : Nat), f10_fresh (X, n) a p1 p2 p3 = some (r, (X', n')) ∧ f11_fresh (M, n') ma p1 p2 p3 = some (r, (M', n'')) ∧ R X' M' n''
theorem bl_490 : bdec cL_law 490 [.aload_n 1, .aload_n 0, .iload 4, .iconst 1, .iadd] = true := by decide +kernel
theorem dl_496 : decode cL_law 496 = .ok (.iaload, 1) := by decide +kernel
theorem bl_497 : bdec cL_law 497 [.aload_n 0, .iload 4, .iconst 2, .iadd] = true := by decide +kernel
theorem dl_502 : decode cL_law 502 = .ok (.iaload, 1) := by decide +kernel
theorem bl_503 : bdec cL_law 503 [.aload_n 0, .iload 4, .iconst 3, .iadd] = true := by decide +kernel
theorem dl_508 : decode cL_law 508 = .ok (.iaload, 1) := by decide +kernel
theorem dl_509 : decode cL_law 509 = .ok (.invokevirtual 80, 3) := by decide +kernel
theorem bl_512 : bdec cL_law 512 [.aload_n 2, .aload_n 0, .iload 4, .iconst 1, .iadd] = true := by decide +kernel
theorem dl_518 : decode cL_law 518 = .ok (.iaload, 1) := by decide +kernel
theorem bl_519 : bdec cL_law 519 [.aload_n 0, .iload 4, .iconst 2, .iadd] = true := by decide +kernel
theorem dl_524 : decode cL_law 524 = .ok (.iaload, 1) := by decide +kernel
theorem bl_525 : bdec cL_law 525 [.aload_n 0, .iload 4, .iconst 3, .iadd] = true := by decide +kernel
theorem dl_530 : decode cL_law 530 = .ok (.iaload, 1) := by decide +kernel
theorem dl_531 : decode cL_law 531 = .ok (.invokevirtual 84, 3) := by decide +kernel
theorem dl_534 : decode cL_law 534 = .ok (.if_icmp .eq 654, 3) := by decide +kernel
set_option maxRecDepth 100000 in
theorem lk_fresh {Γ : JC} {κx κm : KP} {Ax Am : Nat → Prop} {o b L a ma : Nat} {cJ : ClassId} {xs : Nat → Int32} {X M : Nat → Option HO} {n : Nat} {v : Int64} {k m i : Nat} (G : LH Γ κx κm Ax Am o cJ b L xs) {R : (Nat → Option HO) → (Nat → Option HO) → Nat → Prop} (hRx : ∀ X M n, R X M n → hcls (X, n) a = some 10 ∧ hcls (M, n) ma = some 11) (hS : S_fresh R a ma) (hi : i + 5 < L) (hk : k + 110 ≤ 607560 ∧ m + 110 ≤ 7273423) (hRR : R X M n)
    (kk : ∀ X M n v, R X M n → J Γ 8 (HL κx κm Ax Am cJ o X M n v) (k + 110) (m + 110) 1188 [(0, .ref b), (1, .ref a), (2, .ref ma), (3, .ref o), (4, .int (Int32.ofNat i))] []) : J Γ 8 (HL κx κm Ax Am cJ o X M n v) k m 490 [(0, .ref b), (1, .ref a), (2, .ref ma), (3, .ref o), (4, .int (Int32.ofNat i))] [] := by
  have E := G.1
  have hLL : L ≤ 3072 := G.2.2.2.2.2.2.2.2.2.2.2.2.2.2.2
  obtain ⟨r, X1, n1, M1, n2, hfx, hfm, hR1⟩ := hS X M n (xs (Int32.ofNat i + Int32.ofInt 1).toNatClampNeg) (xs (Int32.ofNat i + Int32.ofInt 2).toNatClampNeg) (xs (Int32.ofNat i + Int32.ofInt 3).toNatClampNeg) hRR
  refine j_blk (pc' := 496) (lv' := [(0, .ref b), (1, .ref a), (2, .ref ma), (3, .ref o), (4, .int (Int32.ofNat i))]) (st' := [.int (Int32.ofNat i + Int32.ofInt 1), .ref b, .ref a]) E bl_490 rfl ?_
  refine j_sld G dl_496 (lw_in1 hi hLL) ?_
  refine j_blk (pc' := 502) (lv' := [(0, .ref b), (1, .ref a), (2, .ref ma), (3, .ref o), (4, .int (Int32.ofNat i))]) (st' := [.int (Int32.ofNat i + Int32.ofInt 2), .ref b, .int (xs (Int32.ofNat i + Int32.ofInt 1).toNatClampNeg), .ref a]) E bl_497 rfl ?_
  refine j_sld G dl_502 (lw_in2 hi hLL) ?_
  refine j_blk (pc' := 508) (lv' := [(0, .ref b), (1, .ref a), (2, .ref ma), (3, .ref o), (4, .int (Int32.ofNat i))]) (st' := [.int (Int32.ofNat i + Int32.ofInt 3), .ref b, .int (xs (Int32.ofNat i + Int32.ofInt 2).toNatClampNeg), .int (xs (Int32.ofNat i + Int32.ofInt 1).toNatClampNeg), .ref a]) E bl_503 rfl ?_
  refine j_sld G dl_508 (lw_in3 hi hLL) ?_
  refine lw_cx (d := 5) (mc := 1) (ms := 1) [.int (xs (Int32.ofNat i + Int32.ofInt 1).toNatClampNeg), .int (xs (Int32.ofNat i + Int32.ofInt 2).toNatClampNeg), .int (xs (Int32.ofNat i + Int32.ofInt 3).toNatClampNeg)] [] (ov := some (.int r)) (X' := X1) (n' := n1) G w_RL_80 (by decide) (c10_fresh _ κx Ax G.2.2.2.2.2.2.2.2.2.2.2.2.2.2.1 _ _ _ _ _ hfx) (hRx _ _ _ hRR).1 rfl rfl (Nat.le_of_ble_eq_true rfl) dl_509 (by omega) ?_
  show J Γ 8 _ _ _ _ _ [.int r]
  refine j_blk (pc' := 518) (lv' := [(0, .ref b), (1, .ref a), (2, .ref ma), (3, .ref o), (4, .int (Int32.ofNat i))]) (st' := [.int (Int32.ofNat i + Int32.ofInt 1), .ref b, .ref ma, .int r]) E bl_512 rfl ?_
  refine j_sld G dl_518 (lw_in1 hi hLL) ?_
  refine j_blk (pc' := 524) (lv' := [(0, .ref b), (1, .ref a), (2, .ref ma), (3, .ref o), (4, .int (Int32.ofNat i))]) (st' := [.int (Int32.ofNat i + Int32.ofInt 2), .ref b, .int (xs (Int32.ofNat i + Int32.ofInt 1).toNatClampNeg), .ref ma, .int r]) E bl_519 rfl ?_
  refine j_sld G dl_524 (lw_in2 hi hLL) ?_
  refine j_blk (pc' := 530) (lv' := [(0, .ref b), (1, .ref a), (2, .ref ma), (3, .ref o), (4, .int (Int32.ofNat i))]) (st' := [.int (Int32.ofNat i + Int32.ofInt 3), .ref b, .int (xs (Int32.ofNat i + Int32.ofInt 2).toNatClampNeg), .int (xs (Int32.ofNat i + Int32.ofInt 1).toNatClampNeg), .ref ma, .int r]) E bl_525 rfl ?_
  refine j_sld G dl_530 (lw_in3 hi hLL) ?_
  refine lw_cm (d := 4) (mc := 0) (ms := 0) [.int (xs (Int32.ofNat i + Int32.ofInt 1).toNatClampNeg), .int (xs (Int32.ofNat i + Int32.ofInt 2).toNatClampNeg), .int (xs (Int32.ofNat i + Int32.ofInt 3).toNatClampNeg)] [.int r] (ov := some (.int r)) (M' := M1) (n' := n2) G w_RL_84 (by decide) (c11_fresh _ κm Am _ _ _ _ _ hfm) (show hcls (M, n1) ma = some 11 from (hRx _ _ _ hRR).2) rfl rfl (Nat.le_of_ble_eq_true rfl) dl_531 (by omega) ?_
  show J Γ 8 _ _ _ _ _ [.int r, .int r]
  refine j_icmp_eq (tgt := 1188) E dl_534 (by decide) (fun _ => j_wid (by omega) (by omega) (kk _ _ _ _ hR1)) (fun h => absurd rfl h)
/-- call 15 -/
def S_leavers (R : (Nat → Option HO) → (Nat → Option HO) → Nat → Prop) (a ma : Nat) : Prop := ∀ (X M : Nat → Option HO) (n : Nat), R X M n → ∃ (r : Int32) (X' : Nat → Option HO) (n' : Nat) (M' : Nat → Option HO) (n'' : Nat), f10_leavers (X, n) a = some (r, (X', n')) ∧ f11_leavers (M, n') ma = some (r, (M', n'')) ∧ R X' M' n''
theorem bl_539 : bdec cL_law 539 [.aload_n 1] = true := by decide +kernel
theorem dl_540 : decode cL_law 540 = .ok (.invokevirtual 85, 3) := by decide +kernel
theorem bl_543 : bdec cL_law 543 [.aload_n 2] = true := by decide +kernel
theorem dl_544 : decode cL_law 544 = .ok (.invokevirtual 88, 3) := by decide +kernel
theorem dl_547 : decode cL_law 547 = .ok (.if_icmp .eq 641, 3) := by decide +kernel
set_option maxRecDepth 100000 in
theorem lk_leavers {Γ : JC} {κx κm : KP} {Ax Am : Nat → Prop} {o b L a ma : Nat} {cJ : ClassId} {xs : Nat → Int32} {X M : Nat → Option HO} {n : Nat} {v : Int64} {k m i : Nat} (G : LH Γ κx κm Ax Am o cJ b L xs) {R : (Nat → Option HO) → (Nat → Option HO) → Nat → Prop} (hRx : ∀ X M n, R X M n → hcls (X, n) a = some 10 ∧ hcls (M, n) ma = some 11) (hS : S_leavers R a ma) (hi : i + 5 < L) (hk : k + 110 ≤ 607560 ∧ m + 110 ≤ 7273423) (hRR : R X M n)
    (kk : ∀ X M n v, R X M n → J Γ 8 (HL κx κm Ax Am cJ o X M n v) (k + 110) (m + 110) 1188 [(0, .ref b), (1, .ref a), (2, .ref ma), (3, .ref o), (4, .int (Int32.ofNat i))] []) : J Γ 8 (HL κx κm Ax Am cJ o X M n v) k m 539 [(0, .ref b), (1, .ref a), (2, .ref ma), (3, .ref o), (4, .int (Int32.ofNat i))] [] := by
  have E := G.1
  have hLL : L ≤ 3072 := G.2.2.2.2.2.2.2.2.2.2.2.2.2.2.2
  obtain ⟨r, X1, n1, M1, n2, hfx, hfm, hR1⟩ := hS X M n hRR
  refine j_blk (pc' := 540) (lv' := [(0, .ref b), (1, .ref a), (2, .ref ma), (3, .ref o), (4, .int (Int32.ofNat i))]) (st' := [.ref a]) E bl_539 rfl ?_
  refine lw_cx (d := 5) (mc := 0) (ms := 0) [] [] (ov := some (.int r)) (X' := X1) (n' := n1) G w_RL_85 (by decide) (c10_leavers _ κx Ax _ _ hfx) (hRx _ _ _ hRR).1 rfl rfl (Nat.le_of_ble_eq_true rfl) dl_540 (by omega) ?_
  show J Γ 8 _ _ _ _ _ [.int r]
  refine j_blk (pc' := 544) (lv' := [(0, .ref b), (1, .ref a), (2, .ref ma), (3, .ref o), (4, .int (Int32.ofNat i))]) (st' := [.ref ma, .int r]) E bl_543 rfl ?_
  refine lw_cm (d := 4) (mc := 0) (ms := 0) [] [.int r] (ov := some (.int r)) (M' := M1) (n' := n2) G w_RL_88 (by decide) (c11_leavers _ κm Am _ _ hfm) (show hcls (M, n1) ma = some 11 from (hRx _ _ _ hRR).2) rfl rfl (Nat.le_of_ble_eq_true rfl) dl_544 (by omega) ?_
  show J Γ 8 _ _ _ _ _ [.int r, .int r]
  refine j_icmp_eq (tgt := 1188) E dl_547 (by decide) (fun _ => j_wid (by omega) (by omega) (kk _ _ _ _ hR1)) (fun h => absurd rfl h)
/-- call 16 -/
def S_odds (R : (Nat → Option HO) → (Nat → Option HO) → Nat → Prop) (a ma : Nat) : Prop := ∀ (X M : Nat → Option HO) (n : Nat) (p1 : Int32), R X M n → ∃ (r : Int64) (X' : Nat → Option HO) (n' : Nat) (M' : Nat → Option HO) (n'' : Nat), f10_odds (X, n) a p1 = some (r, (X', n')) ∧ f11_odds (M, n') ma p1 = some (r, (M', n'')) ∧ R X' M' n''
theorem bl_552 : bdec cL_law 552 [.aload_n 1, .aload_n 0, .iload 4, .iconst 1, .iadd] = true := by decide +kernel
theorem dl_558 : decode cL_law 558 = .ok (.iaload, 1) := by decide +kernel
theorem dl_559 : decode cL_law 559 = .ok (.invokevirtual 89, 3) := by decide +kernel
theorem bl_562 : bdec cL_law 562 [.aload_n 2, .aload_n 0, .iload 4, .iconst 1, .iadd] = true := by decide +kernel
theorem dl_568 : decode cL_law 568 = .ok (.iaload, 1) := by decide +kernel
theorem dl_569 : decode cL_law 569 = .ok (.invokevirtual 93, 3) := by decide +kernel
theorem bl_572 : bdec cL_law 572 [.lcmp] = true := by decide +kernel
theorem dl_573 : decode cL_law 573 = .ok (.ifCond .eq 615, 3) := by decide +kernel
set_option maxRecDepth 100000 in
theorem lk_odds {Γ : JC} {κx κm : KP} {Ax Am : Nat → Prop} {o b L a ma : Nat} {cJ : ClassId} {xs : Nat → Int32} {X M : Nat → Option HO} {n : Nat} {v : Int64} {k m i : Nat} (G : LH Γ κx κm Ax Am o cJ b L xs) {R : (Nat → Option HO) → (Nat → Option HO) → Nat → Prop} (hRx : ∀ X M n, R X M n → hcls (X, n) a = some 10 ∧ hcls (M, n) ma = some 11) (hS : S_odds R a ma) (hi : i + 5 < L) (hk : k + 110 ≤ 607560 ∧ m + 110 ≤ 7273423) (hRR : R X M n)
    (kk : ∀ X M n v, R X M n → J Γ 8 (HL κx κm Ax Am cJ o X M n v) (k + 110) (m + 110) 1188 [(0, .ref b), (1, .ref a), (2, .ref ma), (3, .ref o), (4, .int (Int32.ofNat i))] []) : J Γ 8 (HL κx κm Ax Am cJ o X M n v) k m 552 [(0, .ref b), (1, .ref a), (2, .ref ma), (3, .ref o), (4, .int (Int32.ofNat i))] [] := by
  have E := G.1
  have hLL : L ≤ 3072 := G.2.2.2.2.2.2.2.2.2.2.2.2.2.2.2
  obtain ⟨r, X1, n1, M1, n2, hfx, hfm, hR1⟩ := hS X M n (xs (Int32.ofNat i + Int32.ofInt 1).toNatClampNeg) hRR
  refine j_blk (pc' := 558) (lv' := [(0, .ref b), (1, .ref a), (2, .ref ma), (3, .ref o), (4, .int (Int32.ofNat i))]) (st' := [.int (Int32.ofNat i + Int32.ofInt 1), .ref b, .ref a]) E bl_552 rfl ?_
  refine j_sld G dl_558 (lw_in1 hi hLL) ?_
  refine lw_cx (d := 5) (mc := 0) (ms := 0) [.int (xs (Int32.ofNat i + Int32.ofInt 1).toNatClampNeg)] [] (ov := some (.long r)) (X' := X1) (n' := n1) G w_RL_89 (by decide) (c10_odds _ κx Ax _ _ _ hfx) (hRx _ _ _ hRR).1 rfl rfl (Nat.le_of_ble_eq_true rfl) dl_559 (by omega) ?_
  show J Γ 8 _ _ _ _ _ [.long r]
  refine j_blk (pc' := 568) (lv' := [(0, .ref b), (1, .ref a), (2, .ref ma), (3, .ref o), (4, .int (Int32.ofNat i))]) (st' := [.int (Int32.ofNat i + Int32.ofInt 1), .ref b, .ref ma, .long r]) E bl_562 rfl ?_
  refine j_sld G dl_568 (lw_in1 hi hLL) ?_
  refine lw_cm (d := 101) (mc := 0) (ms := 0) [.int (xs (Int32.ofNat i + Int32.ofInt 1).toNatClampNeg)] [.long r] (ov := some (.long r)) (M' := M1) (n' := n2) G w_RL_93 (by decide) (c11_odds _ κm Am _ _ _ hfm) (show hcls (M, n1) ma = some 11 from (hRx _ _ _ hRR).2) rfl rfl (Nat.le_of_ble_eq_true rfl) dl_569 (by omega) ?_
  show J Γ 8 _ _ _ _ _ [.long r, .long r]
  refine j_blk (pc' := 573) (lv' := [(0, .ref b), (1, .ref a), (2, .ref ma), (3, .ref o), (4, .int (Int32.ofNat i))]) (st' := [.int (lg_cmp r r)]) E bl_572 rfl ?_
  refine j_if_eq (tgt := 1188) E dl_573 (by decide) (fun _ => j_wid (by omega) (by omega) (kk _ _ _ _ hR1)) (fun h => absurd (lg_cmp_self r) h)
/-- call 17 -/
def S_ways (R : (Nat → Option HO) → (Nat → Option HO) → Nat → Prop) (a ma : Nat) : Prop := ∀ (X M : Nat → Option HO) (n : Nat) (p1 : Int32) (p2 : Int32), R X M n → ∃ (r : Int32) (X' : Nat → Option HO) (n' : Nat) (M' : Nat → Option HO) (n'' : Nat), f10_ways (X, n) a p1 p2 = some (r, (X', n')) ∧ f11_ways (M, n') ma p1 p2 = some (r, (M', n'')) ∧ R X' M' n''
theorem bl_578 : bdec cL_law 578 [.aload_n 1, .aload_n 0, .iload 4, .iconst 1, .iadd] = true := by decide +kernel
theorem dl_584 : decode cL_law 584 = .ok (.iaload, 1) := by decide +kernel
theorem bl_585 : bdec cL_law 585 [.aload_n 0, .iload 4, .iconst 2, .iadd] = true := by decide +kernel
theorem dl_590 : decode cL_law 590 = .ok (.iaload, 1) := by decide +kernel
theorem dl_591 : decode cL_law 591 = .ok (.invokevirtual 94, 3) := by decide +kernel
theorem bl_594 : bdec cL_law 594 [.aload_n 2, .aload_n 0, .iload 4, .iconst 1, .iadd] = true := by decide +kernel
theorem dl_600 : decode cL_law 600 = .ok (.iaload, 1) := by decide +kernel
theorem bl_601 : bdec cL_law 601 [.aload_n 0, .iload 4, .iconst 2, .iadd] = true := by decide +kernel
theorem dl_606 : decode cL_law 606 = .ok (.iaload, 1) := by decide +kernel
theorem dl_607 : decode cL_law 607 = .ok (.invokevirtual 97, 3) := by decide +kernel
theorem dl_610 : decode cL_law 610 = .ok (.if_icmp .eq 578, 3) := by decide +kernel
set_option maxRecDepth 100000 in
theorem lk_ways {Γ : JC} {κx κm : KP} {Ax Am : Nat → Prop} {o b L a ma : Nat} {cJ : ClassId} {xs : Nat → Int32} {X M : Nat → Option HO} {n : Nat} {v : Int64} {k m i : Nat} (G : LH Γ κx κm Ax Am o cJ b L xs) {R : (Nat → Option HO) → (Nat → Option HO) → Nat → Prop} (hRx : ∀ X M n, R X M n → hcls (X, n) a = some 10 ∧ hcls (M, n) ma = some 11) (hS : S_ways R a ma) (hi : i + 5 < L) (hk : k + 110 ≤ 607560 ∧ m + 110 ≤ 7273423) (hRR : R X M n)
    (kk : ∀ X M n v, R X M n → J Γ 8 (HL κx κm Ax Am cJ o X M n v) (k + 110) (m + 110) 1188 [(0, .ref b), (1, .ref a), (2, .ref ma), (3, .ref o), (4, .int (Int32.ofNat i))] []) : J Γ 8 (HL κx κm Ax Am cJ o X M n v) k m 578 [(0, .ref b), (1, .ref a), (2, .ref ma), (3, .ref o), (4, .int (Int32.ofNat i))] [] := by
  have E := G.1
  have hLL : L ≤ 3072 := G.2.2.2.2.2.2.2.2.2.2.2.2.2.2.2
  obtain ⟨r, X1, n1, M1, n2, hfx, hfm, hR1⟩ := hS X M n (xs (Int32.ofNat i + Int32.ofInt 1).toNatClampNeg) (xs (Int32.ofNat i + Int32.ofInt 2).toNatClampNeg) hRR
  refine j_blk (pc' := 584) (lv' := [(0, .ref b), (1, .ref a), (2, .ref ma), (3, .ref o), (4, .int (Int32.ofNat i))]) (st' := [.int (Int32.ofNat i + Int32.ofInt 1), .ref b, .ref a]) E bl_578 rfl ?_
  refine j_sld G dl_584 (lw_in1 hi hLL) ?_
  refine j_blk (pc' := 590) (lv' := [(0, .ref b), (1, .ref a), (2, .ref ma), (3, .ref o), (4, .int (Int32.ofNat i))]) (st' := [.int (Int32.ofNat i + Int32.ofInt 2), .ref b, .int (xs (Int32.ofNat i + Int32.ofInt 1).toNatClampNeg), .ref a]) E bl_585 rfl ?_
  refine j_sld G dl_590 (lw_in2 hi hLL) ?_
  refine lw_cx (d := 6) (mc := 0) (ms := 0) [.int (xs (Int32.ofNat i + Int32.ofInt 1).toNatClampNeg), .int (xs (Int32.ofNat i + Int32.ofInt 2).toNatClampNeg)] [] (ov := some (.int r)) (X' := X1) (n' := n1) G w_RL_94 (by decide) (c10_ways _ κx Ax _ _ _ _ hfx) (hRx _ _ _ hRR).1 rfl rfl (Nat.le_of_ble_eq_true rfl) dl_591 (by omega) ?_
  show J Γ 8 _ _ _ _ _ [.int r]
  refine j_blk (pc' := 600) (lv' := [(0, .ref b), (1, .ref a), (2, .ref ma), (3, .ref o), (4, .int (Int32.ofNat i))]) (st' := [.int (Int32.ofNat i + Int32.ofInt 1), .ref b, .ref ma, .int r]) E bl_594 rfl ?_
  refine j_sld G dl_600 (lw_in1 hi hLL) ?_
  refine j_blk (pc' := 606) (lv' := [(0, .ref b), (1, .ref a), (2, .ref ma), (3, .ref o), (4, .int (Int32.ofNat i))]) (st' := [.int (Int32.ofNat i + Int32.ofInt 2), .ref b, .int (xs (Int32.ofNat i + Int32.ofInt 1).toNatClampNeg), .ref ma, .int r]) E bl_601 rfl ?_
  refine j_sld G dl_606 (lw_in2 hi hLL) ?_
  refine lw_cm (d := 4) (mc := 0) (ms := 0) [.int (xs (Int32.ofNat i + Int32.ofInt 1).toNatClampNeg), .int (xs (Int32.ofNat i + Int32.ofInt 2).toNatClampNeg)] [.int r] (ov := some (.int r)) (M' := M1) (n' := n2) G w_RL_97 (by decide) (c11_ways _ κm Am _ _ _ _ hfm) (show hcls (M, n1) ma = some 11 from (hRx _ _ _ hRR).2) rfl rfl (Nat.le_of_ble_eq_true rfl) dl_607 (by omega) ?_
  show J Γ 8 _ _ _ _ _ [.int r, .int r]
  refine j_icmp_eq (tgt := 1188) E dl_610 (by decide) (fun _ => j_wid (by omega) (by omega) (kk _ _ _ _ hR1)) (fun h => absurd rfl h)
/-- call 18 -/
def S_round (R : (Nat → Option HO) → (Nat → Option HO) → Nat → Prop) (a ma : Nat) : Prop := ∀ (X M : Nat → Option HO) (n : Nat) (p1 : Int32) (p2 : Int32) (p3 : Int32), R X M n → ∃ (r : Int32) (X' : Nat → Option HO) (n' : Nat) (M' : Nat → Option HO) (n'' : Nat), obd (f10_round (X, n) a p1 p2 p3) (fun r => some (r, (X, n))) = some (r, (X', n')) ∧ obd (f11_round (M, n') ma p1 p2 p3) (fun r => some (r, (M, n'))) = some (r, (M', n'')) ∧ R X' M' n''
theorem bl_615 : bdec cL_law 615 [.aload_n 1, .aload_n 0, .iload 4, .iconst 1, .iadd] = true := by decide +kernel
theorem dl_621 : decode cL_law 621 = .ok (.iaload, 1) := by decide +kernel
theorem bl_622 : bdec cL_law 622 [.aload_n 0, .iload 4, .iconst 2, .iadd] = true := by decide +kernel
theorem dl_627 : decode cL_law 627 = .ok (.iaload, 1) := by decide +kernel
theorem bl_628 : bdec cL_law 628 [.aload_n 0, .iload 4, .iconst 3, .iadd] = true := by decide +kernel
theorem dl_633 : decode cL_law 633 = .ok (.iaload, 1) := by decide +kernel
theorem dl_634 : decode cL_law 634 = .ok (.invokevirtual 98, 3) := by decide +kernel
theorem bl_637 : bdec cL_law 637 [.aload_n 2, .aload_n 0, .iload 4, .iconst 1, .iadd] = true := by decide +kernel
theorem dl_643 : decode cL_law 643 = .ok (.iaload, 1) := by decide +kernel
theorem bl_644 : bdec cL_law 644 [.aload_n 0, .iload 4, .iconst 2, .iadd] = true := by decide +kernel
theorem dl_649 : decode cL_law 649 = .ok (.iaload, 1) := by decide +kernel
theorem bl_650 : bdec cL_law 650 [.aload_n 0, .iload 4, .iconst 3, .iadd] = true := by decide +kernel
theorem dl_655 : decode cL_law 655 = .ok (.iaload, 1) := by decide +kernel
theorem dl_656 : decode cL_law 656 = .ok (.invokevirtual 101, 3) := by decide +kernel
theorem dl_659 : decode cL_law 659 = .ok (.if_icmp .eq 529, 3) := by decide +kernel
set_option maxRecDepth 100000 in
theorem lk_round {Γ : JC} {κx κm : KP} {Ax Am : Nat → Prop} {o b L a ma : Nat} {cJ : ClassId} {xs : Nat → Int32} {X M : Nat → Option HO} {n : Nat} {v : Int64} {k m i : Nat} (G : LH Γ κx κm Ax Am o cJ b L xs) {R : (Nat → Option HO) → (Nat → Option HO) → Nat → Prop} (hRx : ∀ X M n, R X M n → hcls (X, n) a = some 10 ∧ hcls (M, n) ma = some 11) (hS : S_round R a ma) (hi : i + 5 < L) (hk : k + 110 ≤ 607560 ∧ m + 110 ≤ 7273423) (hRR : R X M n)
    (kk : ∀ X M n v, R X M n → J Γ 8 (HL κx κm Ax Am cJ o X M n v) (k + 110) (m + 110) 1188 [(0, .ref b), (1, .ref a), (2, .ref ma), (3, .ref o), (4, .int (Int32.ofNat i))] []) : J Γ 8 (HL κx κm Ax Am cJ o X M n v) k m 615 [(0, .ref b), (1, .ref a), (2, .ref ma), (3, .ref o), (4, .int (Int32.ofNat i))] [] := by
  have E := G.1
  have hLL : L ≤ 3072 := G.2.2.2.2.2.2.2.2.2.2.2.2.2.2.2
  obtain ⟨r, X1, n1, M1, n2, hfx, hfm, hR1⟩ := hS X M n (xs (Int32.ofNat i + Int32.ofInt 1).toNatClampNeg) (xs (Int32.ofNat i + Int32.ofInt 2).toNatClampNeg) (xs (Int32.ofNat i + Int32.ofInt 3).toNatClampNeg) hRR
  refine j_blk (pc' := 621) (lv' := [(0, .ref b), (1, .ref a), (2, .ref ma), (3, .ref o), (4, .int (Int32.ofNat i))]) (st' := [.int (Int32.ofNat i + Int32.ofInt 1), .ref b, .ref a]) E bl_615 rfl ?_
  refine j_sld G dl_621 (lw_in1 hi hLL) ?_
  refine j_blk (pc' := 627) (lv' := [(0, .ref b), (1, .ref a), (2, .ref ma), (3, .ref o), (4, .int (Int32.ofNat i))]) (st' := [.int (Int32.ofNat i + Int32.ofInt 2), .ref b, .int (xs (Int32.ofNat i + Int32.ofInt 1).toNatClampNeg), .ref a]) E bl_622 rfl ?_
  refine j_sld G dl_627 (lw_in2 hi hLL) ?_
  refine j_blk (pc' := 633) (lv' := [(0, .ref b), (1, .ref a), (2, .ref ma), (3, .ref o), (4, .int (Int32.ofNat i))]) (st' := [.int (Int32.ofNat i + Int32.ofInt 3), .ref b, .int (xs (Int32.ofNat i + Int32.ofInt 2).toNatClampNeg), .int (xs (Int32.ofNat i + Int32.ofInt 1).toNatClampNeg), .ref a]) E bl_628 rfl ?_
  refine j_sld G dl_633 (lw_in3 hi hLL) ?_
  obtain ⟨hfx, hq1⟩ := pf_at hfx
  refine lw_cx (d := 1) (mc := 0) (ms := 0) [.int (xs (Int32.ofNat i + Int32.ofInt 1).toNatClampNeg), .int (xs (Int32.ofNat i + Int32.ofInt 2).toNatClampNeg), .int (xs (Int32.ofNat i + Int32.ofInt 3).toNatClampNeg)] [] (ov := some (.int r)) (X' := X1) (n' := n1) G w_RL_98 (by decide) (by rw [hq1]; exact c10_round _ κx Ax _ _ _ _ _ hfx) (hRx _ _ _ hRR).1 rfl rfl (Nat.le_of_ble_eq_true rfl) dl_634 (by omega) ?_
  show J Γ 8 _ _ _ _ _ [.int r]
  refine j_blk (pc' := 643) (lv' := [(0, .ref b), (1, .ref a), (2, .ref ma), (3, .ref o), (4, .int (Int32.ofNat i))]) (st' := [.int (Int32.ofNat i + Int32.ofInt 1), .ref b, .ref ma, .int r]) E bl_637 rfl ?_
  refine j_sld G dl_643 (lw_in1 hi hLL) ?_
  refine j_blk (pc' := 649) (lv' := [(0, .ref b), (1, .ref a), (2, .ref ma), (3, .ref o), (4, .int (Int32.ofNat i))]) (st' := [.int (Int32.ofNat i + Int32.ofInt 2), .ref b, .int (xs (Int32.ofNat i + Int32.ofInt 1).toNatClampNeg), .ref ma, .int r]) E bl_644 rfl ?_
  refine j_sld G dl_649 (lw_in2 hi hLL) ?_
  refine j_blk (pc' := 655) (lv' := [(0, .ref b), (1, .ref a), (2, .ref ma), (3, .ref o), (4, .int (Int32.ofNat i))]) (st' := [.int (Int32.ofNat i + Int32.ofInt 3), .ref b, .int (xs (Int32.ofNat i + Int32.ofInt 2).toNatClampNeg), .int (xs (Int32.ofNat i + Int32.ofInt 1).toNatClampNeg), .ref ma, .int r]) E bl_650 rfl ?_
  refine j_sld G dl_655 (lw_in3 hi hLL) ?_
  obtain ⟨hfm, hq2⟩ := pf_at hfm
  refine lw_cm (d := 2) (mc := 0) (ms := 0) [.int (xs (Int32.ofNat i + Int32.ofInt 1).toNatClampNeg), .int (xs (Int32.ofNat i + Int32.ofInt 2).toNatClampNeg), .int (xs (Int32.ofNat i + Int32.ofInt 3).toNatClampNeg)] [.int r] (ov := some (.int r)) (M' := M1) (n' := n2) G w_RL_101 (by decide) (by rw [hq2]; exact c11_round _ κm Am _ _ _ _ _ hfm) (show hcls (M, n1) ma = some 11 from (hRx _ _ _ hRR).2) rfl rfl (Nat.le_of_ble_eq_true rfl) dl_656 (by omega) ?_
  show J Γ 8 _ _ _ _ _ [.int r, .int r]
  refine j_icmp_eq (tgt := 1188) E dl_659 (by decide) (fun _ => j_wid (by omega) (by omega) (kk _ _ _ _ hR1)) (fun h => absurd rfl h)
/-- call 19 -/
def S_byRounds (R : (Nat → Option HO) → (Nat → Option HO) → Nat → Prop) (a ma : Nat) : Prop := ∀ (X M : Nat → Option HO) (n : Nat) (p1 : Int32) (p2 : Int32), R X M n → ∃ (r : Int32) (X' : Nat → Option HO) (n' : Nat) (M' : Nat → Option HO) (n'' : Nat), obd (f10_byRounds (X, n) a p1 p2) (fun r => some (r, (X, n))) = some (r, (X', n')) ∧ obd (f11_byRounds (M, n') ma p1 p2) (fun r => some (r, (M, n'))) = some (r, (M', n'')) ∧ R X' M' n''
theorem bl_664 : bdec cL_law 664 [.aload_n 1, .aload_n 0, .iload 4, .iconst 1, .iadd] = true := by decide +kernel
theorem dl_670 : decode cL_law 670 = .ok (.iaload, 1) := by decide +kernel
theorem bl_671 : bdec cL_law 671 [.aload_n 0, .iload 4, .iconst 2, .iadd] = true := by decide +kernel
theorem dl_676 : decode cL_law 676 = .ok (.iaload, 1) := by decide +kernel
theorem dl_677 : decode cL_law 677 = .ok (.invokevirtual 102, 3) := by decide +kernel
theorem bl_680 : bdec cL_law 680 [.aload_n 2, .aload_n 0, .iload 4, .iconst 1, .iadd] = true := by decide +kernel
theorem dl_686 : decode cL_law 686 = .ok (.iaload, 1) := by decide +kernel
theorem bl_687 : bdec cL_law 687 [.aload_n 0, .iload 4, .iconst 2, .iadd] = true := by decide +kernel
theorem dl_692 : decode cL_law 692 = .ok (.iaload, 1) := by decide +kernel
theorem dl_693 : decode cL_law 693 = .ok (.invokevirtual 105, 3) := by decide +kernel
theorem dl_696 : decode cL_law 696 = .ok (.if_icmp .eq 492, 3) := by decide +kernel
set_option maxRecDepth 100000 in
theorem lk_byRounds {Γ : JC} {κx κm : KP} {Ax Am : Nat → Prop} {o b L a ma : Nat} {cJ : ClassId} {xs : Nat → Int32} {X M : Nat → Option HO} {n : Nat} {v : Int64} {k m i : Nat} (G : LH Γ κx κm Ax Am o cJ b L xs) {R : (Nat → Option HO) → (Nat → Option HO) → Nat → Prop} (hRx : ∀ X M n, R X M n → hcls (X, n) a = some 10 ∧ hcls (M, n) ma = some 11) (hS : S_byRounds R a ma) (hi : i + 5 < L) (hk : k + 110 ≤ 607560 ∧ m + 110 ≤ 7273423) (hRR : R X M n)
    (kk : ∀ X M n v, R X M n → J Γ 8 (HL κx κm Ax Am cJ o X M n v) (k + 110) (m + 110) 1188 [(0, .ref b), (1, .ref a), (2, .ref ma), (3, .ref o), (4, .int (Int32.ofNat i))] []) : J Γ 8 (HL κx κm Ax Am cJ o X M n v) k m 664 [(0, .ref b), (1, .ref a), (2, .ref ma), (3, .ref o), (4, .int (Int32.ofNat i))] [] := by
  have E := G.1
  have hLL : L ≤ 3072 := G.2.2.2.2.2.2.2.2.2.2.2.2.2.2.2
  obtain ⟨r, X1, n1, M1, n2, hfx, hfm, hR1⟩ := hS X M n (xs (Int32.ofNat i + Int32.ofInt 1).toNatClampNeg) (xs (Int32.ofNat i + Int32.ofInt 2).toNatClampNeg) hRR
  refine j_blk (pc' := 670) (lv' := [(0, .ref b), (1, .ref a), (2, .ref ma), (3, .ref o), (4, .int (Int32.ofNat i))]) (st' := [.int (Int32.ofNat i + Int32.ofInt 1), .ref b, .ref a]) E bl_664 rfl ?_
  refine j_sld G dl_670 (lw_in1 hi hLL) ?_
  refine j_blk (pc' := 676) (lv' := [(0, .ref b), (1, .ref a), (2, .ref ma), (3, .ref o), (4, .int (Int32.ofNat i))]) (st' := [.int (Int32.ofNat i + Int32.ofInt 2), .ref b, .int (xs (Int32.ofNat i + Int32.ofInt 1).toNatClampNeg), .ref a]) E bl_671 rfl ?_
  refine j_sld G dl_676 (lw_in2 hi hLL) ?_
  obtain ⟨hfx, hq1⟩ := pf_at hfx
  refine lw_cx (d := 1) (mc := 0) (ms := 0) [.int (xs (Int32.ofNat i + Int32.ofInt 1).toNatClampNeg), .int (xs (Int32.ofNat i + Int32.ofInt 2).toNatClampNeg)] [] (ov := some (.int r)) (X' := X1) (n' := n1) G w_RL_102 (by decide) (by rw [hq1]; exact c10_byRounds _ κx Ax _ _ _ _ hfx) (hRx _ _ _ hRR).1 rfl rfl (Nat.le_of_ble_eq_true rfl) dl_677 (by omega) ?_
  show J Γ 8 _ _ _ _ _ [.int r]
  refine j_blk (pc' := 686) (lv' := [(0, .ref b), (1, .ref a), (2, .ref ma), (3, .ref o), (4, .int (Int32.ofNat i))]) (st' := [.int (Int32.ofNat i + Int32.ofInt 1), .ref b, .ref ma, .int r]) E bl_680 rfl ?_
  refine j_sld G dl_686 (lw_in1 hi hLL) ?_
  refine j_blk (pc' := 692) (lv' := [(0, .ref b), (1, .ref a), (2, .ref ma), (3, .ref o), (4, .int (Int32.ofNat i))]) (st' := [.int (Int32.ofNat i + Int32.ofInt 2), .ref b, .int (xs (Int32.ofNat i + Int32.ofInt 1).toNatClampNeg), .ref ma, .int r]) E bl_687 rfl ?_
  refine j_sld G dl_692 (lw_in2 hi hLL) ?_
  obtain ⟨hfm, hq2⟩ := pf_at hfm
  refine lw_cm (d := 2) (mc := 0) (ms := 0) [.int (xs (Int32.ofNat i + Int32.ofInt 1).toNatClampNeg), .int (xs (Int32.ofNat i + Int32.ofInt 2).toNatClampNeg)] [.int r] (ov := some (.int r)) (M' := M1) (n' := n2) G w_RL_105 (by decide) (by rw [hq2]; exact c11_byRounds _ κm Am _ _ _ _ hfm) (show hcls (M, n1) ma = some 11 from (hRx _ _ _ hRR).2) rfl rfl (Nat.le_of_ble_eq_true rfl) dl_693 (by omega) ?_
  show J Γ 8 _ _ _ _ _ [.int r, .int r]
  refine j_icmp_eq (tgt := 1188) E dl_696 (by decide) (fun _ => j_wid (by omega) (by omega) (kk _ _ _ _ hR1)) (fun h => absurd rfl h)
/-- call 20 -/
def S_played (R : (Nat → Option HO) → (Nat → Option HO) → Nat → Prop) (a ma : Nat) : Prop := ∀ (X M : Nat → Option HO) (n : Nat) (p1 : Int32), R X M n → ∃ (r : Int32) (X' : Nat → Option HO) (n' : Nat) (M' : Nat → Option HO) (n'' : Nat), f10_played (X, n) a p1 = some (r, (X', n')) ∧ f11_played (M, n') ma p1 = some (r, (M', n'')) ∧ R X' M' n''
theorem bl_701 : bdec cL_law 701 [.aload_n 1, .aload_n 0, .iload 4, .iconst 1, .iadd] = true := by decide +kernel
theorem dl_707 : decode cL_law 707 = .ok (.iaload, 1) := by decide +kernel
theorem dl_708 : decode cL_law 708 = .ok (.invokevirtual 106, 3) := by decide +kernel
theorem bl_711 : bdec cL_law 711 [.aload_n 2, .aload_n 0, .iload 4, .iconst 1, .iadd] = true := by decide +kernel
theorem dl_717 : decode cL_law 717 = .ok (.iaload, 1) := by decide +kernel
theorem dl_718 : decode cL_law 718 = .ok (.invokevirtual 109, 3) := by decide +kernel
theorem dl_721 : decode cL_law 721 = .ok (.if_icmp .eq 467, 3) := by decide +kernel
set_option maxRecDepth 100000 in
theorem lk_played {Γ : JC} {κx κm : KP} {Ax Am : Nat → Prop} {o b L a ma : Nat} {cJ : ClassId} {xs : Nat → Int32} {X M : Nat → Option HO} {n : Nat} {v : Int64} {k m i : Nat} (G : LH Γ κx κm Ax Am o cJ b L xs) {R : (Nat → Option HO) → (Nat → Option HO) → Nat → Prop} (hRx : ∀ X M n, R X M n → hcls (X, n) a = some 10 ∧ hcls (M, n) ma = some 11) (hS : S_played R a ma) (hi : i + 5 < L) (hk : k + 110 ≤ 607560 ∧ m + 110 ≤ 7273423) (hRR : R X M n)
    (kk : ∀ X M n v, R X M n → J Γ 8 (HL κx κm Ax Am cJ o X M n v) (k + 110) (m + 110) 1188 [(0, .ref b), (1, .ref a), (2, .ref ma), (3, .ref o), (4, .int (Int32.ofNat i))] []) : J Γ 8 (HL κx κm Ax Am cJ o X M n v) k m 701 [(0, .ref b), (1, .ref a), (2, .ref ma), (3, .ref o), (4, .int (Int32.ofNat i))] [] := by
  have E := G.1
  have hLL : L ≤ 3072 := G.2.2.2.2.2.2.2.2.2.2.2.2.2.2.2
  obtain ⟨r, X1, n1, M1, n2, hfx, hfm, hR1⟩ := hS X M n (xs (Int32.ofNat i + Int32.ofInt 1).toNatClampNeg) hRR
  refine j_blk (pc' := 707) (lv' := [(0, .ref b), (1, .ref a), (2, .ref ma), (3, .ref o), (4, .int (Int32.ofNat i))]) (st' := [.int (Int32.ofNat i + Int32.ofInt 1), .ref b, .ref a]) E bl_701 rfl ?_
  refine j_sld G dl_707 (lw_in1 hi hLL) ?_
  refine lw_cx (d := 6) (mc := 0) (ms := 0) [.int (xs (Int32.ofNat i + Int32.ofInt 1).toNatClampNeg)] [] (ov := some (.int r)) (X' := X1) (n' := n1) G w_RL_106 (by decide) (c10_played _ κx Ax _ _ _ hfx) (hRx _ _ _ hRR).1 rfl rfl (Nat.le_of_ble_eq_true rfl) dl_708 (by omega) ?_
  show J Γ 8 _ _ _ _ _ [.int r]
  refine j_blk (pc' := 717) (lv' := [(0, .ref b), (1, .ref a), (2, .ref ma), (3, .ref o), (4, .int (Int32.ofNat i))]) (st' := [.int (Int32.ofNat i + Int32.ofInt 1), .ref b, .ref ma, .int r]) E bl_711 rfl ?_
  refine j_sld G dl_717 (lw_in1 hi hLL) ?_
  refine lw_cm (d := 4) (mc := 0) (ms := 0) [.int (xs (Int32.ofNat i + Int32.ofInt 1).toNatClampNeg)] [.int r] (ov := some (.int r)) (M' := M1) (n' := n2) G w_RL_109 (by decide) (c11_played _ κm Am _ _ _ hfm) (show hcls (M, n1) ma = some 11 from (hRx _ _ _ hRR).2) rfl rfl (Nat.le_of_ble_eq_true rfl) dl_718 (by omega) ?_
  show J Γ 8 _ _ _ _ _ [.int r, .int r]
  refine j_icmp_eq (tgt := 1188) E dl_721 (by decide) (fun _ => j_wid (by omega) (by omega) (kk _ _ _ _ hR1)) (fun h => absurd rfl h)
/-- call 21 -/
def S_seeded (R : (Nat → Option HO) → (Nat → Option HO) → Nat → Prop) (a ma : Nat) : Prop := ∀ (X M : Nat → Option HO) (n : Nat) (p1 : Int32) (p2 : Int32), R X M n → ∃ (r : Int32) (X' : Nat → Option HO) (n' : Nat) (M' : Nat → Option HO) (n'' : Nat), f10_seeded (X, n) a p1 p2 = some (r, (X', n')) ∧ f11_seeded (M, n') ma p1 p2 = some (r, (M', n'')) ∧ R X' M' n''
theorem bl_726 : bdec cL_law 726 [.aload_n 1, .aload_n 0, .iload 4, .iconst 1, .iadd] = true := by decide +kernel
theorem dl_732 : decode cL_law 732 = .ok (.iaload, 1) := by decide +kernel
theorem bl_733 : bdec cL_law 733 [.aload_n 0, .iload 4, .iconst 2, .iadd] = true := by decide +kernel
theorem dl_738 : decode cL_law 738 = .ok (.iaload, 1) := by decide +kernel
theorem dl_739 : decode cL_law 739 = .ok (.invokevirtual 110, 3) := by decide +kernel
theorem bl_742 : bdec cL_law 742 [.aload_n 2, .aload_n 0, .iload 4, .iconst 1, .iadd] = true := by decide +kernel
theorem dl_748 : decode cL_law 748 = .ok (.iaload, 1) := by decide +kernel
theorem bl_749 : bdec cL_law 749 [.aload_n 0, .iload 4, .iconst 2, .iadd] = true := by decide +kernel
theorem dl_754 : decode cL_law 754 = .ok (.iaload, 1) := by decide +kernel
theorem dl_755 : decode cL_law 755 = .ok (.invokevirtual 113, 3) := by decide +kernel
theorem dl_758 : decode cL_law 758 = .ok (.if_icmp .eq 430, 3) := by decide +kernel
set_option maxRecDepth 100000 in
theorem lk_seeded {Γ : JC} {κx κm : KP} {Ax Am : Nat → Prop} {o b L a ma : Nat} {cJ : ClassId} {xs : Nat → Int32} {X M : Nat → Option HO} {n : Nat} {v : Int64} {k m i : Nat} (G : LH Γ κx κm Ax Am o cJ b L xs) {R : (Nat → Option HO) → (Nat → Option HO) → Nat → Prop} (hRx : ∀ X M n, R X M n → hcls (X, n) a = some 10 ∧ hcls (M, n) ma = some 11) (hS : S_seeded R a ma) (hi : i + 5 < L) (hk : k + 110 ≤ 607560 ∧ m + 110 ≤ 7273423) (hRR : R X M n)
    (kk : ∀ X M n v, R X M n → J Γ 8 (HL κx κm Ax Am cJ o X M n v) (k + 110) (m + 110) 1188 [(0, .ref b), (1, .ref a), (2, .ref ma), (3, .ref o), (4, .int (Int32.ofNat i))] []) : J Γ 8 (HL κx κm Ax Am cJ o X M n v) k m 726 [(0, .ref b), (1, .ref a), (2, .ref ma), (3, .ref o), (4, .int (Int32.ofNat i))] [] := by
  have E := G.1
  have hLL : L ≤ 3072 := G.2.2.2.2.2.2.2.2.2.2.2.2.2.2.2
  obtain ⟨r, X1, n1, M1, n2, hfx, hfm, hR1⟩ := hS X M n (xs (Int32.ofNat i + Int32.ofInt 1).toNatClampNeg) (xs (Int32.ofNat i + Int32.ofInt 2).toNatClampNeg) hRR
  refine j_blk (pc' := 732) (lv' := [(0, .ref b), (1, .ref a), (2, .ref ma), (3, .ref o), (4, .int (Int32.ofNat i))]) (st' := [.int (Int32.ofNat i + Int32.ofInt 1), .ref b, .ref a]) E bl_726 rfl ?_
  refine j_sld G dl_732 (lw_in1 hi hLL) ?_
  refine j_blk (pc' := 738) (lv' := [(0, .ref b), (1, .ref a), (2, .ref ma), (3, .ref o), (4, .int (Int32.ofNat i))]) (st' := [.int (Int32.ofNat i + Int32.ofInt 2), .ref b, .int (xs (Int32.ofNat i + Int32.ofInt 1).toNatClampNeg), .ref a]) E bl_733 rfl ?_
  refine j_sld G dl_738 (lw_in2 hi hLL) ?_
  refine lw_cx (d := 5) (mc := 0) (ms := 0) [.int (xs (Int32.ofNat i + Int32.ofInt 1).toNatClampNeg), .int (xs (Int32.ofNat i + Int32.ofInt 2).toNatClampNeg)] [] (ov := some (.int r)) (X' := X1) (n' := n1) G w_RL_110 (by decide) (c10_seeded _ κx Ax _ _ _ _ hfx) (hRx _ _ _ hRR).1 rfl rfl (Nat.le_of_ble_eq_true rfl) dl_739 (by omega) ?_
  show J Γ 8 _ _ _ _ _ [.int r]
  refine j_blk (pc' := 748) (lv' := [(0, .ref b), (1, .ref a), (2, .ref ma), (3, .ref o), (4, .int (Int32.ofNat i))]) (st' := [.int (Int32.ofNat i + Int32.ofInt 1), .ref b, .ref ma, .int r]) E bl_742 rfl ?_
  refine j_sld G dl_748 (lw_in1 hi hLL) ?_
  refine j_blk (pc' := 754) (lv' := [(0, .ref b), (1, .ref a), (2, .ref ma), (3, .ref o), (4, .int (Int32.ofNat i))]) (st' := [.int (Int32.ofNat i + Int32.ofInt 2), .ref b, .int (xs (Int32.ofNat i + Int32.ofInt 1).toNatClampNeg), .ref ma, .int r]) E bl_749 rfl ?_
  refine j_sld G dl_754 (lw_in2 hi hLL) ?_
  refine lw_cm (d := 4) (mc := 0) (ms := 0) [.int (xs (Int32.ofNat i + Int32.ofInt 1).toNatClampNeg), .int (xs (Int32.ofNat i + Int32.ofInt 2).toNatClampNeg)] [.int r] (ov := some (.int r)) (M' := M1) (n' := n2) G w_RL_113 (by decide) (c11_seeded _ κm Am _ _ _ _ hfm) (show hcls (M, n1) ma = some 11 from (hRx _ _ _ hRR).2) rfl rfl (Nat.le_of_ble_eq_true rfl) dl_755 (by omega) ?_
  show J Γ 8 _ _ _ _ _ [.int r, .int r]
  refine j_icmp_eq (tgt := 1188) E dl_758 (by decide) (fun _ => j_wid (by omega) (by omega) (kk _ _ _ _ hR1)) (fun h => absurd rfl h)
/-- call 22 -/
def S_judge (R : (Nat → Option HO) → (Nat → Option HO) → Nat → Prop) (a ma : Nat) : Prop := ∀ (X M : Nat → Option HO) (n : Nat) (p1 : Int32), R X M n → ∃ (r : Int32) (X' : Nat → Option HO) (n' : Nat) (M' : Nat → Option HO) (n'' : Nat), obd (f10_judge (X, n) a p1) (fun r => some (r, (X, n))) = some (r, (X', n')) ∧ obd (f11_judge (M, n') ma p1) (fun r => some (r, (M, n'))) = some (r, (M', n'')) ∧ R X' M' n''
theorem bl_763 : bdec cL_law 763 [.aload_n 1, .aload_n 0, .iload 4, .iconst 1, .iadd] = true := by decide +kernel
theorem dl_769 : decode cL_law 769 = .ok (.iaload, 1) := by decide +kernel
theorem dl_770 : decode cL_law 770 = .ok (.invokevirtual 114, 3) := by decide +kernel
theorem bl_773 : bdec cL_law 773 [.aload_n 2, .aload_n 0, .iload 4, .iconst 1, .iadd] = true := by decide +kernel
theorem dl_779 : decode cL_law 779 = .ok (.iaload, 1) := by decide +kernel
theorem dl_780 : decode cL_law 780 = .ok (.invokevirtual 117, 3) := by decide +kernel
theorem dl_783 : decode cL_law 783 = .ok (.if_icmp .eq 405, 3) := by decide +kernel
set_option maxRecDepth 100000 in
theorem lk_judge {Γ : JC} {κx κm : KP} {Ax Am : Nat → Prop} {o b L a ma : Nat} {cJ : ClassId} {xs : Nat → Int32} {X M : Nat → Option HO} {n : Nat} {v : Int64} {k m i : Nat} (G : LH Γ κx κm Ax Am o cJ b L xs) {R : (Nat → Option HO) → (Nat → Option HO) → Nat → Prop} (hRx : ∀ X M n, R X M n → hcls (X, n) a = some 10 ∧ hcls (M, n) ma = some 11) (hS : S_judge R a ma) (hi : i + 5 < L) (hk : k + 110 ≤ 607560 ∧ m + 110 ≤ 7273423) (hRR : R X M n)
    (kk : ∀ X M n v, R X M n → J Γ 8 (HL κx κm Ax Am cJ o X M n v) (k + 110) (m + 110) 1188 [(0, .ref b), (1, .ref a), (2, .ref ma), (3, .ref o), (4, .int (Int32.ofNat i))] []) : J Γ 8 (HL κx κm Ax Am cJ o X M n v) k m 763 [(0, .ref b), (1, .ref a), (2, .ref ma), (3, .ref o), (4, .int (Int32.ofNat i))] [] := by
  have E := G.1
  have hLL : L ≤ 3072 := G.2.2.2.2.2.2.2.2.2.2.2.2.2.2.2
  obtain ⟨r, X1, n1, M1, n2, hfx, hfm, hR1⟩ := hS X M n (xs (Int32.ofNat i + Int32.ofInt 1).toNatClampNeg) hRR
  refine j_blk (pc' := 769) (lv' := [(0, .ref b), (1, .ref a), (2, .ref ma), (3, .ref o), (4, .int (Int32.ofNat i))]) (st' := [.int (Int32.ofNat i + Int32.ofInt 1), .ref b, .ref a]) E bl_763 rfl ?_
  refine j_sld G dl_769 (lw_in1 hi hLL) ?_
  obtain ⟨hfx, hq1⟩ := pf_at hfx
  refine lw_cx (d := 4) (mc := 0) (ms := 0) [.int (xs (Int32.ofNat i + Int32.ofInt 1).toNatClampNeg)] [] (ov := some (.int r)) (X' := X1) (n' := n1) G w_RL_114 (by decide) (by rw [hq1]; exact c10_judge _ κx Ax _ _ _ hfx) (hRx _ _ _ hRR).1 rfl rfl (Nat.le_of_ble_eq_true rfl) dl_770 (by omega) ?_
  show J Γ 8 _ _ _ _ _ [.int r]
  refine j_blk (pc' := 779) (lv' := [(0, .ref b), (1, .ref a), (2, .ref ma), (3, .ref o), (4, .int (Int32.ofNat i))]) (st' := [.int (Int32.ofNat i + Int32.ofInt 1), .ref b, .ref ma, .int r]) E bl_773 rfl ?_
  refine j_sld G dl_779 (lw_in1 hi hLL) ?_
  obtain ⟨hfm, hq2⟩ := pf_at hfm
  refine lw_cm (d := 4) (mc := 0) (ms := 0) [.int (xs (Int32.ofNat i + Int32.ofInt 1).toNatClampNeg)] [.int r] (ov := some (.int r)) (M' := M1) (n' := n2) G w_RL_117 (by decide) (by rw [hq2]; exact c11_judge _ κm Am _ _ _ hfm) (show hcls (M, n1) ma = some 11 from (hRx _ _ _ hRR).2) rfl rfl (Nat.le_of_ble_eq_true rfl) dl_780 (by omega) ?_
  show J Γ 8 _ _ _ _ _ [.int r, .int r]
  refine j_icmp_eq (tgt := 1188) E dl_783 (by decide) (fun _ => j_wid (by omega) (by omega) (kk _ _ _ _ hR1)) (fun h => absurd rfl h)
/-- call 23 -/
def S_image (R : (Nat → Option HO) → (Nat → Option HO) → Nat → Prop) (a ma : Nat) : Prop := ∀ (X M : Nat → Option HO) (n : Nat), R X M n → ∃ (r : Int32) (X' : Nat → Option HO) (n' : Nat) (M' : Nat → Option HO) (n'' : Nat), f10_image (X, n) a = some (r, (X', n')) ∧ f11_image (M, n') ma = some (r, (M', n'')) ∧ R X' M' n''
theorem bl_788 : bdec cL_law 788 [.aload_n 1] = true := by decide +kernel
theorem dl_789 : decode cL_law 789 = .ok (.invokevirtual 118, 3) := by decide +kernel
theorem bl_792 : bdec cL_law 792 [.aload_n 2] = true := by decide +kernel
theorem dl_793 : decode cL_law 793 = .ok (.invokevirtual 121, 3) := by decide +kernel
theorem dl_796 : decode cL_law 796 = .ok (.if_icmp .eq 392, 3) := by decide +kernel
set_option maxRecDepth 100000 in
theorem lk_image {Γ : JC} {κx κm : KP} {Ax Am : Nat → Prop} {o b L a ma : Nat} {cJ : ClassId} {xs : Nat → Int32} {X M : Nat → Option HO} {n : Nat} {v : Int64} {k m i : Nat} (G : LH Γ κx κm Ax Am o cJ b L xs) {R : (Nat → Option HO) → (Nat → Option HO) → Nat → Prop} (hRx : ∀ X M n, R X M n → hcls (X, n) a = some 10 ∧ hcls (M, n) ma = some 11) (hS : S_image R a ma) (hi : i + 5 < L) (hk : k + 110 ≤ 607560 ∧ m + 110 ≤ 7273423) (hRR : R X M n)
    (kk : ∀ X M n v, R X M n → J Γ 8 (HL κx κm Ax Am cJ o X M n v) (k + 110) (m + 110) 1188 [(0, .ref b), (1, .ref a), (2, .ref ma), (3, .ref o), (4, .int (Int32.ofNat i))] []) : J Γ 8 (HL κx κm Ax Am cJ o X M n v) k m 788 [(0, .ref b), (1, .ref a), (2, .ref ma), (3, .ref o), (4, .int (Int32.ofNat i))] [] := by
  have E := G.1
  have hLL : L ≤ 3072 := G.2.2.2.2.2.2.2.2.2.2.2.2.2.2.2
  obtain ⟨r, X1, n1, M1, n2, hfx, hfm, hR1⟩ := hS X M n hRR
  refine j_blk (pc' := 789) (lv' := [(0, .ref b), (1, .ref a), (2, .ref ma), (3, .ref o), (4, .int (Int32.ofNat i))]) (st' := [.ref a]) E bl_788 rfl ?_
  refine lw_cx (d := 1) (mc := 0) (ms := 0) [] [] (ov := some (.int r)) (X' := X1) (n' := n1) G w_RL_118 (by decide) (c10_image _ κx Ax _ _ hfx) (hRx _ _ _ hRR).1 rfl rfl (Nat.le_of_ble_eq_true rfl) dl_789 (by omega) ?_
  show J Γ 8 _ _ _ _ _ [.int r]
  refine j_blk (pc' := 793) (lv' := [(0, .ref b), (1, .ref a), (2, .ref ma), (3, .ref o), (4, .int (Int32.ofNat i))]) (st' := [.ref ma, .int r]) E bl_792 rfl ?_
  refine lw_cm (d := 1) (mc := 0) (ms := 0) [] [.int r] (ov := some (.int r)) (M' := M1) (n' := n2) G w_RL_121 (by decide) (c11_image _ κm Am _ _ hfm) (show hcls (M, n1) ma = some 11 from (hRx _ _ _ hRR).2) rfl rfl (Nat.le_of_ble_eq_true rfl) dl_793 (by omega) ?_
  show J Γ 8 _ _ _ _ _ [.int r, .int r]
  refine j_icmp_eq (tgt := 1188) E dl_796 (by decide) (fun _ => j_wid (by omega) (by omega) (kk _ _ _ _ hR1)) (fun h => absurd rfl h)
/-- call 24 -/
def S_restore (R : (Nat → Option HO) → (Nat → Option HO) → Nat → Prop) (a ma : Nat) : Prop := ∀ (X M : Nat → Option HO) (n : Nat), R X M n → ∃ (r : Int32) (X' : Nat → Option HO) (n' : Nat) (M' : Nat → Option HO) (n'' : Nat), f10_restore (X, n) a = some (r, (X', n')) ∧ f11_restore (M, n') ma = some (r, (M', n'')) ∧ R X' M' n''
theorem bl_801 : bdec cL_law 801 [.aload_n 1] = true := by decide +kernel
theorem dl_802 : decode cL_law 802 = .ok (.invokevirtual 122, 3) := by decide +kernel
theorem bl_805 : bdec cL_law 805 [.aload_n 2] = true := by decide +kernel
theorem dl_806 : decode cL_law 806 = .ok (.invokevirtual 125, 3) := by decide +kernel
theorem dl_809 : decode cL_law 809 = .ok (.if_icmp .eq 379, 3) := by decide +kernel
set_option maxRecDepth 100000 in
theorem lk_restore {Γ : JC} {κx κm : KP} {Ax Am : Nat → Prop} {o b L a ma : Nat} {cJ : ClassId} {xs : Nat → Int32} {X M : Nat → Option HO} {n : Nat} {v : Int64} {k m i : Nat} (G : LH Γ κx κm Ax Am o cJ b L xs) {R : (Nat → Option HO) → (Nat → Option HO) → Nat → Prop} (hRx : ∀ X M n, R X M n → hcls (X, n) a = some 10 ∧ hcls (M, n) ma = some 11) (hS : S_restore R a ma) (hi : i + 5 < L) (hk : k + 110 ≤ 607560 ∧ m + 110 ≤ 7273423) (hRR : R X M n)
    (kk : ∀ X M n v, R X M n → J Γ 8 (HL κx κm Ax Am cJ o X M n v) (k + 110) (m + 110) 1188 [(0, .ref b), (1, .ref a), (2, .ref ma), (3, .ref o), (4, .int (Int32.ofNat i))] []) : J Γ 8 (HL κx κm Ax Am cJ o X M n v) k m 801 [(0, .ref b), (1, .ref a), (2, .ref ma), (3, .ref o), (4, .int (Int32.ofNat i))] [] := by
  have E := G.1
  have hLL : L ≤ 3072 := G.2.2.2.2.2.2.2.2.2.2.2.2.2.2.2
  obtain ⟨r, X1, n1, M1, n2, hfx, hfm, hR1⟩ := hS X M n hRR
  refine j_blk (pc' := 802) (lv' := [(0, .ref b), (1, .ref a), (2, .ref ma), (3, .ref o), (4, .int (Int32.ofNat i))]) (st' := [.ref a]) E bl_801 rfl ?_
  refine lw_cx (d := 1) (mc := 0) (ms := 0) [] [] (ov := some (.int r)) (X' := X1) (n' := n1) G w_RL_122 (by decide) (c10_restore _ κx Ax _ _ hfx) (hRx _ _ _ hRR).1 rfl rfl (Nat.le_of_ble_eq_true rfl) dl_802 (by omega) ?_
  show J Γ 8 _ _ _ _ _ [.int r]
  refine j_blk (pc' := 806) (lv' := [(0, .ref b), (1, .ref a), (2, .ref ma), (3, .ref o), (4, .int (Int32.ofNat i))]) (st' := [.ref ma, .int r]) E bl_805 rfl ?_
  refine lw_cm (d := 1) (mc := 0) (ms := 0) [] [.int r] (ov := some (.int r)) (M' := M1) (n' := n2) G w_RL_125 (by decide) (c11_restore _ κm Am _ _ hfm) (show hcls (M, n1) ma = some 11 from (hRx _ _ _ hRR).2) rfl rfl (Nat.le_of_ble_eq_true rfl) dl_806 (by omega) ?_
  show J Γ 8 _ _ _ _ _ [.int r, .int r]
  refine j_icmp_eq (tgt := 1188) E dl_809 (by decide) (fun _ => j_wid (by omega) (by omega) (kk _ _ _ _ hR1)) (fun h => absurd rfl h)
/-- call 25 -/
def S_count (R : (Nat → Option HO) → (Nat → Option HO) → Nat → Prop) (a ma : Nat) : Prop := ∀ (X M : Nat → Option HO) (n : Nat) (p1 : Int32), R X M n → ∃ (r : Int32) (X' : Nat → Option HO) (n' : Nat) (M' : Nat → Option HO) (n'' : Nat), obd (f10_count (X, n) a p1) (fun r => some (r, (X, n))) = some (r, (X', n')) ∧ obd (f11_count (M, n') ma p1) (fun r => some (r, (M, n'))) = some (r, (M', n'')) ∧ R X' M' n''
theorem bl_814 : bdec cL_law 814 [.aload_n 1, .aload_n 0, .iload 4, .iconst 1, .iadd] = true := by decide +kernel
theorem dl_820 : decode cL_law 820 = .ok (.iaload, 1) := by decide +kernel
theorem dl_821 : decode cL_law 821 = .ok (.invokevirtual 126, 3) := by decide +kernel
theorem bl_824 : bdec cL_law 824 [.aload_n 2, .aload_n 0, .iload 4, .iconst 1, .iadd] = true := by decide +kernel
theorem dl_830 : decode cL_law 830 = .ok (.iaload, 1) := by decide +kernel
theorem dl_831 : decode cL_law 831 = .ok (.invokevirtual 129, 3) := by decide +kernel
theorem dl_834 : decode cL_law 834 = .ok (.if_icmp .eq 354, 3) := by decide +kernel
set_option maxRecDepth 100000 in
theorem lk_count {Γ : JC} {κx κm : KP} {Ax Am : Nat → Prop} {o b L a ma : Nat} {cJ : ClassId} {xs : Nat → Int32} {X M : Nat → Option HO} {n : Nat} {v : Int64} {k m i : Nat} (G : LH Γ κx κm Ax Am o cJ b L xs) {R : (Nat → Option HO) → (Nat → Option HO) → Nat → Prop} (hRx : ∀ X M n, R X M n → hcls (X, n) a = some 10 ∧ hcls (M, n) ma = some 11) (hS : S_count R a ma) (hi : i + 5 < L) (hk : k + 110 ≤ 607560 ∧ m + 110 ≤ 7273423) (hRR : R X M n)
    (kk : ∀ X M n v, R X M n → J Γ 8 (HL κx κm Ax Am cJ o X M n v) (k + 110) (m + 110) 1188 [(0, .ref b), (1, .ref a), (2, .ref ma), (3, .ref o), (4, .int (Int32.ofNat i))] []) : J Γ 8 (HL κx κm Ax Am cJ o X M n v) k m 814 [(0, .ref b), (1, .ref a), (2, .ref ma), (3, .ref o), (4, .int (Int32.ofNat i))] [] := by
  have E := G.1
  have hLL : L ≤ 3072 := G.2.2.2.2.2.2.2.2.2.2.2.2.2.2.2
  obtain ⟨r, X1, n1, M1, n2, hfx, hfm, hR1⟩ := hS X M n (xs (Int32.ofNat i + Int32.ofInt 1).toNatClampNeg) hRR
  refine j_blk (pc' := 820) (lv' := [(0, .ref b), (1, .ref a), (2, .ref ma), (3, .ref o), (4, .int (Int32.ofNat i))]) (st' := [.int (Int32.ofNat i + Int32.ofInt 1), .ref b, .ref a]) E bl_814 rfl ?_
  refine j_sld G dl_820 (lw_in1 hi hLL) ?_
  obtain ⟨hfx, hq1⟩ := pf_at hfx
  refine lw_cx (d := 4) (mc := 0) (ms := 0) [.int (xs (Int32.ofNat i + Int32.ofInt 1).toNatClampNeg)] [] (ov := some (.int r)) (X' := X1) (n' := n1) G w_RL_126 (by decide) (by rw [hq1]; exact c10_count _ κx Ax _ _ _ hfx) (hRx _ _ _ hRR).1 rfl rfl (Nat.le_of_ble_eq_true rfl) dl_821 (by omega) ?_
  show J Γ 8 _ _ _ _ _ [.int r]
  refine j_blk (pc' := 830) (lv' := [(0, .ref b), (1, .ref a), (2, .ref ma), (3, .ref o), (4, .int (Int32.ofNat i))]) (st' := [.int (Int32.ofNat i + Int32.ofInt 1), .ref b, .ref ma, .int r]) E bl_824 rfl ?_
  refine j_sld G dl_830 (lw_in1 hi hLL) ?_
  obtain ⟨hfm, hq2⟩ := pf_at hfm
  refine lw_cm (d := 2) (mc := 0) (ms := 0) [.int (xs (Int32.ofNat i + Int32.ofInt 1).toNatClampNeg)] [.int r] (ov := some (.int r)) (M' := M1) (n' := n2) G w_RL_129 (by decide) (by rw [hq2]; exact c11_count _ κm Am _ _ _ hfm) (show hcls (M, n1) ma = some 11 from (hRx _ _ _ hRR).2) rfl rfl (Nat.le_of_ble_eq_true rfl) dl_831 (by omega) ?_
  show J Γ 8 _ _ _ _ _ [.int r, .int r]
  refine j_icmp_eq (tgt := 1188) E dl_834 (by decide) (fun _ => j_wid (by omega) (by omega) (kk _ _ _ _ hR1)) (fun h => absurd rfl h)
/-- call 26 -/
def S_keep (R : (Nat → Option HO) → (Nat → Option HO) → Nat → Prop) (a ma : Nat) : Prop := ∀ (X M : Nat → Option HO) (n : Nat) (p1 : Int32) (p2 : Int32) (p3 : Int32) (p4 : Int32), R X M n → ∃ (r : Int32) (X' : Nat → Option HO) (n' : Nat) (M' : Nat → Option HO) (n'' : Nat), f10_keep (X, n) a p1 p2 p3 p4 = some (r, (X', n')) ∧ f11_keep (M, n') ma p1 p2 p3 p4 = some (r, (M', n'')) ∧ R X' M' n''
theorem bl_839 : bdec cL_law 839 [.aload_n 1, .aload_n 0, .iload 4, .iconst 1, .iadd] = true := by decide +kernel
theorem dl_845 : decode cL_law 845 = .ok (.iaload, 1) := by decide +kernel
theorem bl_846 : bdec cL_law 846 [.aload_n 0, .iload 4, .iconst 2, .iadd] = true := by decide +kernel
theorem dl_851 : decode cL_law 851 = .ok (.iaload, 1) := by decide +kernel
theorem bl_852 : bdec cL_law 852 [.aload_n 0, .iload 4, .iconst 3, .iadd] = true := by decide +kernel
theorem dl_857 : decode cL_law 857 = .ok (.iaload, 1) := by decide +kernel
theorem bl_858 : bdec cL_law 858 [.aload_n 0, .iload 4, .iconst 4, .iadd] = true := by decide +kernel
theorem dl_863 : decode cL_law 863 = .ok (.iaload, 1) := by decide +kernel
theorem dl_864 : decode cL_law 864 = .ok (.invokevirtual 130, 3) := by decide +kernel
theorem bl_867 : bdec cL_law 867 [.aload_n 2, .aload_n 0, .iload 4, .iconst 1, .iadd] = true := by decide +kernel
theorem dl_873 : decode cL_law 873 = .ok (.iaload, 1) := by decide +kernel
theorem bl_874 : bdec cL_law 874 [.aload_n 0, .iload 4, .iconst 2, .iadd] = true := by decide +kernel
theorem dl_879 : decode cL_law 879 = .ok (.iaload, 1) := by decide +kernel
theorem bl_880 : bdec cL_law 880 [.aload_n 0, .iload 4, .iconst 3, .iadd] = true := by decide +kernel
theorem dl_885 : decode cL_law 885 = .ok (.iaload, 1) := by decide +kernel
theorem bl_886 : bdec cL_law 886 [.aload_n 0, .iload 4, .iconst 4, .iadd] = true := by decide +kernel
theorem dl_891 : decode cL_law 891 = .ok (.iaload, 1) := by decide +kernel
theorem dl_892 : decode cL_law 892 = .ok (.invokevirtual 134, 3) := by decide +kernel
theorem dl_895 : decode cL_law 895 = .ok (.if_icmp .eq 293, 3) := by decide +kernel
set_option maxRecDepth 100000 in
theorem lk_keep {Γ : JC} {κx κm : KP} {Ax Am : Nat → Prop} {o b L a ma : Nat} {cJ : ClassId} {xs : Nat → Int32} {X M : Nat → Option HO} {n : Nat} {v : Int64} {k m i : Nat} (G : LH Γ κx κm Ax Am o cJ b L xs) {R : (Nat → Option HO) → (Nat → Option HO) → Nat → Prop} (hRx : ∀ X M n, R X M n → hcls (X, n) a = some 10 ∧ hcls (M, n) ma = some 11) (hS : S_keep R a ma) (hi : i + 5 < L) (hk : k + 110 ≤ 607560 ∧ m + 110 ≤ 7273423) (hRR : R X M n)
    (kk : ∀ X M n v, R X M n → J Γ 8 (HL κx κm Ax Am cJ o X M n v) (k + 110) (m + 110) 1188 [(0, .ref b), (1, .ref a), (2, .ref ma), (3, .ref o), (4, .int (Int32.ofNat i))] []) : J Γ 8 (HL κx κm Ax Am cJ o X M n v) k m 839 [(0, .ref b), (1, .ref a), (2, .ref ma), (3, .ref o), (4, .int (Int32.ofNat i))] [] := by
  have E := G.1
  have hLL : L ≤ 3072 := G.2.2.2.2.2.2.2.2.2.2.2.2.2.2.2
  obtain ⟨r, X1, n1, M1, n2, hfx, hfm, hR1⟩ := hS X M n (xs (Int32.ofNat i + Int32.ofInt 1).toNatClampNeg) (xs (Int32.ofNat i + Int32.ofInt 2).toNatClampNeg) (xs (Int32.ofNat i + Int32.ofInt 3).toNatClampNeg) (xs (Int32.ofNat i + Int32.ofInt 4).toNatClampNeg) hRR
  refine j_blk (pc' := 845) (lv' := [(0, .ref b), (1, .ref a), (2, .ref ma), (3, .ref o), (4, .int (Int32.ofNat i))]) (st' := [.int (Int32.ofNat i + Int32.ofInt 1), .ref b, .ref a]) E bl_839 rfl ?_
  refine j_sld G dl_845 (lw_in1 hi hLL) ?_
  refine j_blk (pc' := 851) (lv' := [(0, .ref b), (1, .ref a), (2, .ref ma), (3, .ref o), (4, .int (Int32.ofNat i))]) (st' := [.int (Int32.ofNat i + Int32.ofInt 2), .ref b, .int (xs (Int32.ofNat i + Int32.ofInt 1).toNatClampNeg), .ref a]) E bl_846 rfl ?_
  refine j_sld G dl_851 (lw_in2 hi hLL) ?_
  refine j_blk (pc' := 857) (lv' := [(0, .ref b), (1, .ref a), (2, .ref ma), (3, .ref o), (4, .int (Int32.ofNat i))]) (st' := [.int (Int32.ofNat i + Int32.ofInt 3), .ref b, .int (xs (Int32.ofNat i + Int32.ofInt 2).toNatClampNeg), .int (xs (Int32.ofNat i + Int32.ofInt 1).toNatClampNeg), .ref a]) E bl_852 rfl ?_
  refine j_sld G dl_857 (lw_in3 hi hLL) ?_
  refine j_blk (pc' := 863) (lv' := [(0, .ref b), (1, .ref a), (2, .ref ma), (3, .ref o), (4, .int (Int32.ofNat i))]) (st' := [.int (Int32.ofNat i + Int32.ofInt 4), .ref b, .int (xs (Int32.ofNat i + Int32.ofInt 3).toNatClampNeg), .int (xs (Int32.ofNat i + Int32.ofInt 2).toNatClampNeg), .int (xs (Int32.ofNat i + Int32.ofInt 1).toNatClampNeg), .ref a]) E bl_858 rfl ?_
  refine j_sld G dl_863 (lw_in4 hi hLL) ?_
  refine lw_cx (d := 5) (mc := 1) (ms := 1) [.int (xs (Int32.ofNat i + Int32.ofInt 1).toNatClampNeg), .int (xs (Int32.ofNat i + Int32.ofInt 2).toNatClampNeg), .int (xs (Int32.ofNat i + Int32.ofInt 3).toNatClampNeg), .int (xs (Int32.ofNat i + Int32.ofInt 4).toNatClampNeg)] [] (ov := some (.int r)) (X' := X1) (n' := n1) G w_RL_130 (by decide) (c10_keep _ κx Ax G.2.2.2.2.2.2.2.2.2.2.2.2.2.2.1 _ _ _ _ _ _ hfx) (hRx _ _ _ hRR).1 rfl rfl (Nat.le_of_ble_eq_true rfl) dl_864 (by omega) ?_
  show J Γ 8 _ _ _ _ _ [.int r]
  refine j_blk (pc' := 873) (lv' := [(0, .ref b), (1, .ref a), (2, .ref ma), (3, .ref o), (4, .int (Int32.ofNat i))]) (st' := [.int (Int32.ofNat i + Int32.ofInt 1), .ref b, .ref ma, .int r]) E bl_867 rfl ?_
  refine j_sld G dl_873 (lw_in1 hi hLL) ?_
  refine j_blk (pc' := 879) (lv' := [(0, .ref b), (1, .ref a), (2, .ref ma), (3, .ref o), (4, .int (Int32.ofNat i))]) (st' := [.int (Int32.ofNat i + Int32.ofInt 2), .ref b, .int (xs (Int32.ofNat i + Int32.ofInt 1).toNatClampNeg), .ref ma, .int r]) E bl_874 rfl ?_
  refine j_sld G dl_879 (lw_in2 hi hLL) ?_
  refine j_blk (pc' := 885) (lv' := [(0, .ref b), (1, .ref a), (2, .ref ma), (3, .ref o), (4, .int (Int32.ofNat i))]) (st' := [.int (Int32.ofNat i + Int32.ofInt 3), .ref b, .int (xs (Int32.ofNat i + Int32.ofInt 2).toNatClampNeg), .int (xs (Int32.ofNat i + Int32.ofInt 1).toNatClampNeg), .ref ma, .int r]) E bl_880 rfl ?_
  refine j_sld G dl_885 (lw_in3 hi hLL) ?_
  refine j_blk (pc' := 891) (lv' := [(0, .ref b), (1, .ref a), (2, .ref ma), (3, .ref o), (4, .int (Int32.ofNat i))]) (st' := [.int (Int32.ofNat i + Int32.ofInt 4), .ref b, .int (xs (Int32.ofNat i + Int32.ofInt 3).toNatClampNeg), .int (xs (Int32.ofNat i + Int32.ofInt 2).toNatClampNeg), .int (xs (Int32.ofNat i + Int32.ofInt 1).toNatClampNeg), .ref ma, .int r]) E bl_886 rfl ?_
  refine j_sld G dl_891 (lw_in4 hi hLL) ?_
  refine lw_cm (d := 2) (mc := 0) (ms := 0) [.int (xs (Int32.ofNat i + Int32.ofInt 1).toNatClampNeg), .int (xs (Int32.ofNat i + Int32.ofInt 2).toNatClampNeg), .int (xs (Int32.ofNat i + Int32.ofInt 3).toNatClampNeg), .int (xs (Int32.ofNat i + Int32.ofInt 4).toNatClampNeg)] [.int r] (ov := some (.int r)) (M' := M1) (n' := n2) G w_RL_134 (by decide) (c11_keep _ κm Am _ _ _ _ _ _ hfm) (show hcls (M, n1) ma = some 11 from (hRx _ _ _ hRR).2) rfl rfl (Nat.le_of_ble_eq_true rfl) dl_892 (by omega) ?_
  show J Γ 8 _ _ _ _ _ [.int r, .int r]
  refine j_icmp_eq (tgt := 1188) E dl_895 (by decide) (fun _ => j_wid (by omega) (by omega) (kk _ _ _ _ hR1)) (fun h => absurd rfl h)
/-- call 27 -/
def S_row (R : (Nat → Option HO) → (Nat → Option HO) → Nat → Prop) (a ma : Nat) : Prop := ∀ (X M : Nat → Option HO) (n : Nat) (p1 : Int32) (p2 : Int32) (p3 : Int32), R X M n → ∃ (r : Int32) (X' : Nat → Option HO) (n' : Nat) (M' : Nat → Option HO) (n'' : Nat), f10_row (X, n) a p1 p2 p3 = some (r, (X', n')) ∧ f11_row (M, n') ma p1 p2 p3 = some (r, (M', n'')) ∧ R X' M' n''
theorem bl_900 : bdec cL_law 900 [.aload_n 1, .aload_n 0, .iload 4, .iconst 1, .iadd] = true := by decide +kernel
theorem dl_906 : decode cL_law 906 = .ok (.iaload, 1) := by decide +kernel
theorem bl_907 : bdec cL_law 907 [.aload_n 0, .iload 4, .iconst 2, .iadd] = true := by decide +kernel
theorem dl_912 : decode cL_law 912 = .ok (.iaload, 1) := by decide +kernel
theorem bl_913 : bdec cL_law 913 [.aload_n 0, .iload 4, .iconst 3, .iadd] = true := by decide +kernel
theorem dl_918 : decode cL_law 918 = .ok (.iaload, 1) := by decide +kernel
theorem dl_919 : decode cL_law 919 = .ok (.invokevirtual 135, 3) := by decide +kernel
theorem bl_922 : bdec cL_law 922 [.aload_n 2, .aload_n 0, .iload 4, .iconst 1, .iadd] = true := by decide +kernel
theorem dl_928 : decode cL_law 928 = .ok (.iaload, 1) := by decide +kernel
theorem bl_929 : bdec cL_law 929 [.aload_n 0, .iload 4, .iconst 2, .iadd] = true := by decide +kernel
theorem dl_934 : decode cL_law 934 = .ok (.iaload, 1) := by decide +kernel
theorem bl_935 : bdec cL_law 935 [.aload_n 0, .iload 4, .iconst 3, .iadd] = true := by decide +kernel
theorem dl_940 : decode cL_law 940 = .ok (.iaload, 1) := by decide +kernel
theorem dl_941 : decode cL_law 941 = .ok (.invokevirtual 138, 3) := by decide +kernel
theorem dl_944 : decode cL_law 944 = .ok (.if_icmp .eq 244, 3) := by decide +kernel
set_option maxRecDepth 100000 in
theorem lk_row {Γ : JC} {κx κm : KP} {Ax Am : Nat → Prop} {o b L a ma : Nat} {cJ : ClassId} {xs : Nat → Int32} {X M : Nat → Option HO} {n : Nat} {v : Int64} {k m i : Nat} (G : LH Γ κx κm Ax Am o cJ b L xs) {R : (Nat → Option HO) → (Nat → Option HO) → Nat → Prop} (hRx : ∀ X M n, R X M n → hcls (X, n) a = some 10 ∧ hcls (M, n) ma = some 11) (hS : S_row R a ma) (hi : i + 5 < L) (hk : k + 110 ≤ 607560 ∧ m + 110 ≤ 7273423) (hRR : R X M n)
    (kk : ∀ X M n v, R X M n → J Γ 8 (HL κx κm Ax Am cJ o X M n v) (k + 110) (m + 110) 1188 [(0, .ref b), (1, .ref a), (2, .ref ma), (3, .ref o), (4, .int (Int32.ofNat i))] []) : J Γ 8 (HL κx κm Ax Am cJ o X M n v) k m 900 [(0, .ref b), (1, .ref a), (2, .ref ma), (3, .ref o), (4, .int (Int32.ofNat i))] [] := by
  have E := G.1
  have hLL : L ≤ 3072 := G.2.2.2.2.2.2.2.2.2.2.2.2.2.2.2
  obtain ⟨r, X1, n1, M1, n2, hfx, hfm, hR1⟩ := hS X M n (xs (Int32.ofNat i + Int32.ofInt 1).toNatClampNeg) (xs (Int32.ofNat i + Int32.ofInt 2).toNatClampNeg) (xs (Int32.ofNat i + Int32.ofInt 3).toNatClampNeg) hRR
  refine j_blk (pc' := 906) (lv' := [(0, .ref b), (1, .ref a), (2, .ref ma), (3, .ref o), (4, .int (Int32.ofNat i))]) (st' := [.int (Int32.ofNat i + Int32.ofInt 1), .ref b, .ref a]) E bl_900 rfl ?_
  refine j_sld G dl_906 (lw_in1 hi hLL) ?_
  refine j_blk (pc' := 912) (lv' := [(0, .ref b), (1, .ref a), (2, .ref ma), (3, .ref o), (4, .int (Int32.ofNat i))]) (st' := [.int (Int32.ofNat i + Int32.ofInt 2), .ref b, .int (xs (Int32.ofNat i + Int32.ofInt 1).toNatClampNeg), .ref a]) E bl_907 rfl ?_
  refine j_sld G dl_912 (lw_in2 hi hLL) ?_
  refine j_blk (pc' := 918) (lv' := [(0, .ref b), (1, .ref a), (2, .ref ma), (3, .ref o), (4, .int (Int32.ofNat i))]) (st' := [.int (Int32.ofNat i + Int32.ofInt 3), .ref b, .int (xs (Int32.ofNat i + Int32.ofInt 2).toNatClampNeg), .int (xs (Int32.ofNat i + Int32.ofInt 1).toNatClampNeg), .ref a]) E bl_913 rfl ?_
  refine j_sld G dl_918 (lw_in3 hi hLL) ?_
  refine lw_cx (d := 2) (mc := 2) (ms := 102) [.int (xs (Int32.ofNat i + Int32.ofInt 1).toNatClampNeg), .int (xs (Int32.ofNat i + Int32.ofInt 2).toNatClampNeg), .int (xs (Int32.ofNat i + Int32.ofInt 3).toNatClampNeg)] [] (ov := some (.int r)) (X' := X1) (n' := n1) G w_RL_135 (by decide) (c10_row _ κx Ax G.2.2.2.2.2.2.2.2.2.2.2.2.2.2.1 _ _ _ _ _ hfx) (hRx _ _ _ hRR).1 rfl rfl (Nat.le_of_ble_eq_true rfl) dl_919 (by omega) ?_
  show J Γ 8 _ _ _ _ _ [.int r]
  refine j_blk (pc' := 928) (lv' := [(0, .ref b), (1, .ref a), (2, .ref ma), (3, .ref o), (4, .int (Int32.ofNat i))]) (st' := [.int (Int32.ofNat i + Int32.ofInt 1), .ref b, .ref ma, .int r]) E bl_922 rfl ?_
  refine j_sld G dl_928 (lw_in1 hi hLL) ?_
  refine j_blk (pc' := 934) (lv' := [(0, .ref b), (1, .ref a), (2, .ref ma), (3, .ref o), (4, .int (Int32.ofNat i))]) (st' := [.int (Int32.ofNat i + Int32.ofInt 2), .ref b, .int (xs (Int32.ofNat i + Int32.ofInt 1).toNatClampNeg), .ref ma, .int r]) E bl_929 rfl ?_
  refine j_sld G dl_934 (lw_in2 hi hLL) ?_
  refine j_blk (pc' := 940) (lv' := [(0, .ref b), (1, .ref a), (2, .ref ma), (3, .ref o), (4, .int (Int32.ofNat i))]) (st' := [.int (Int32.ofNat i + Int32.ofInt 3), .ref b, .int (xs (Int32.ofNat i + Int32.ofInt 2).toNatClampNeg), .int (xs (Int32.ofNat i + Int32.ofInt 1).toNatClampNeg), .ref ma, .int r]) E bl_935 rfl ?_
  refine j_sld G dl_940 (lw_in3 hi hLL) ?_
  refine lw_cm (d := 2) (mc := 0) (ms := 0) [.int (xs (Int32.ofNat i + Int32.ofInt 1).toNatClampNeg), .int (xs (Int32.ofNat i + Int32.ofInt 2).toNatClampNeg), .int (xs (Int32.ofNat i + Int32.ofInt 3).toNatClampNeg)] [.int r] (ov := some (.int r)) (M' := M1) (n' := n2) G w_RL_138 (by decide) (c11_row _ κm Am _ _ _ _ _ hfm) (show hcls (M, n1) ma = some 11 from (hRx _ _ _ hRR).2) rfl rfl (Nat.le_of_ble_eq_true rfl) dl_941 (by omega) ?_
  show J Γ 8 _ _ _ _ _ [.int r, .int r]
  refine j_icmp_eq (tgt := 1188) E dl_944 (by decide) (fun _ => j_wid (by omega) (by omega) (kk _ _ _ _ hR1)) (fun h => absurd rfl h)
/-- call 28 -/
def S_put (R : (Nat → Option HO) → (Nat → Option HO) → Nat → Prop) (a ma : Nat) : Prop := ∀ (X M : Nat → Option HO) (n : Nat) (p1 : Int32) (p2 : Int32) (p3 : Int32), R X M n → ∃ (r : Int32) (X' : Nat → Option HO) (n' : Nat) (M' : Nat → Option HO) (n'' : Nat), f10_put (X, n) a p1 p2 p3 = some (r, (X', n')) ∧ f11_put (M, n') ma p1 p2 p3 = some (r, (M', n'')) ∧ R X' M' n''
theorem bl_949 : bdec cL_law 949 [.aload_n 1, .aload_n 0, .iload 4, .iconst 1, .iadd] = true := by decide +kernel
theorem dl_955 : decode cL_law 955 = .ok (.iaload, 1) := by decide +kernel
theorem bl_956 : bdec cL_law 956 [.aload_n 0, .iload 4, .iconst 2, .iadd] = true := by decide +kernel
theorem dl_961 : decode cL_law 961 = .ok (.iaload, 1) := by decide +kernel
theorem bl_962 : bdec cL_law 962 [.aload_n 0, .iload 4, .iconst 3, .iadd] = true := by decide +kernel
theorem dl_967 : decode cL_law 967 = .ok (.iaload, 1) := by decide +kernel
theorem dl_968 : decode cL_law 968 = .ok (.invokevirtual 139, 3) := by decide +kernel
theorem bl_971 : bdec cL_law 971 [.aload_n 2, .aload_n 0, .iload 4, .iconst 1, .iadd] = true := by decide +kernel
theorem dl_977 : decode cL_law 977 = .ok (.iaload, 1) := by decide +kernel
theorem bl_978 : bdec cL_law 978 [.aload_n 0, .iload 4, .iconst 2, .iadd] = true := by decide +kernel
theorem dl_983 : decode cL_law 983 = .ok (.iaload, 1) := by decide +kernel
theorem bl_984 : bdec cL_law 984 [.aload_n 0, .iload 4, .iconst 3, .iadd] = true := by decide +kernel
theorem dl_989 : decode cL_law 989 = .ok (.iaload, 1) := by decide +kernel
theorem dl_990 : decode cL_law 990 = .ok (.invokevirtual 142, 3) := by decide +kernel
theorem dl_993 : decode cL_law 993 = .ok (.if_icmp .eq 195, 3) := by decide +kernel
set_option maxRecDepth 100000 in
theorem lk_put {Γ : JC} {κx κm : KP} {Ax Am : Nat → Prop} {o b L a ma : Nat} {cJ : ClassId} {xs : Nat → Int32} {X M : Nat → Option HO} {n : Nat} {v : Int64} {k m i : Nat} (G : LH Γ κx κm Ax Am o cJ b L xs) {R : (Nat → Option HO) → (Nat → Option HO) → Nat → Prop} (hRx : ∀ X M n, R X M n → hcls (X, n) a = some 10 ∧ hcls (M, n) ma = some 11) (hS : S_put R a ma) (hi : i + 5 < L) (hk : k + 110 ≤ 607560 ∧ m + 110 ≤ 7273423) (hRR : R X M n)
    (kk : ∀ X M n v, R X M n → J Γ 8 (HL κx κm Ax Am cJ o X M n v) (k + 110) (m + 110) 1188 [(0, .ref b), (1, .ref a), (2, .ref ma), (3, .ref o), (4, .int (Int32.ofNat i))] []) : J Γ 8 (HL κx κm Ax Am cJ o X M n v) k m 949 [(0, .ref b), (1, .ref a), (2, .ref ma), (3, .ref o), (4, .int (Int32.ofNat i))] [] := by
  have E := G.1
  have hLL : L ≤ 3072 := G.2.2.2.2.2.2.2.2.2.2.2.2.2.2.2
  obtain ⟨r, X1, n1, M1, n2, hfx, hfm, hR1⟩ := hS X M n (xs (Int32.ofNat i + Int32.ofInt 1).toNatClampNeg) (xs (Int32.ofNat i + Int32.ofInt 2).toNatClampNeg) (xs (Int32.ofNat i + Int32.ofInt 3).toNatClampNeg) hRR
  refine j_blk (pc' := 955) (lv' := [(0, .ref b), (1, .ref a), (2, .ref ma), (3, .ref o), (4, .int (Int32.ofNat i))]) (st' := [.int (Int32.ofNat i + Int32.ofInt 1), .ref b, .ref a]) E bl_949 rfl ?_
  refine j_sld G dl_955 (lw_in1 hi hLL) ?_
  refine j_blk (pc' := 961) (lv' := [(0, .ref b), (1, .ref a), (2, .ref ma), (3, .ref o), (4, .int (Int32.ofNat i))]) (st' := [.int (Int32.ofNat i + Int32.ofInt 2), .ref b, .int (xs (Int32.ofNat i + Int32.ofInt 1).toNatClampNeg), .ref a]) E bl_956 rfl ?_
  refine j_sld G dl_961 (lw_in2 hi hLL) ?_
  refine j_blk (pc' := 967) (lv' := [(0, .ref b), (1, .ref a), (2, .ref ma), (3, .ref o), (4, .int (Int32.ofNat i))]) (st' := [.int (Int32.ofNat i + Int32.ofInt 3), .ref b, .int (xs (Int32.ofNat i + Int32.ofInt 2).toNatClampNeg), .int (xs (Int32.ofNat i + Int32.ofInt 1).toNatClampNeg), .ref a]) E bl_962 rfl ?_
  refine j_sld G dl_967 (lw_in3 hi hLL) ?_
  refine lw_cx (d := 4) (mc := 0) (ms := 0) [.int (xs (Int32.ofNat i + Int32.ofInt 1).toNatClampNeg), .int (xs (Int32.ofNat i + Int32.ofInt 2).toNatClampNeg), .int (xs (Int32.ofNat i + Int32.ofInt 3).toNatClampNeg)] [] (ov := some (.int r)) (X' := X1) (n' := n1) G w_RL_139 (by decide) (c10_put _ κx Ax _ _ _ _ _ hfx) (hRx _ _ _ hRR).1 rfl rfl (Nat.le_of_ble_eq_true rfl) dl_968 (by omega) ?_
  show J Γ 8 _ _ _ _ _ [.int r]
  refine j_blk (pc' := 977) (lv' := [(0, .ref b), (1, .ref a), (2, .ref ma), (3, .ref o), (4, .int (Int32.ofNat i))]) (st' := [.int (Int32.ofNat i + Int32.ofInt 1), .ref b, .ref ma, .int r]) E bl_971 rfl ?_
  refine j_sld G dl_977 (lw_in1 hi hLL) ?_
  refine j_blk (pc' := 983) (lv' := [(0, .ref b), (1, .ref a), (2, .ref ma), (3, .ref o), (4, .int (Int32.ofNat i))]) (st' := [.int (Int32.ofNat i + Int32.ofInt 2), .ref b, .int (xs (Int32.ofNat i + Int32.ofInt 1).toNatClampNeg), .ref ma, .int r]) E bl_978 rfl ?_
  refine j_sld G dl_983 (lw_in2 hi hLL) ?_
  refine j_blk (pc' := 989) (lv' := [(0, .ref b), (1, .ref a), (2, .ref ma), (3, .ref o), (4, .int (Int32.ofNat i))]) (st' := [.int (Int32.ofNat i + Int32.ofInt 3), .ref b, .int (xs (Int32.ofNat i + Int32.ofInt 2).toNatClampNeg), .int (xs (Int32.ofNat i + Int32.ofInt 1).toNatClampNeg), .ref ma, .int r]) E bl_984 rfl ?_
  refine j_sld G dl_989 (lw_in3 hi hLL) ?_
  refine lw_cm (d := 3) (mc := 0) (ms := 0) [.int (xs (Int32.ofNat i + Int32.ofInt 1).toNatClampNeg), .int (xs (Int32.ofNat i + Int32.ofInt 2).toNatClampNeg), .int (xs (Int32.ofNat i + Int32.ofInt 3).toNatClampNeg)] [.int r] (ov := some (.int r)) (M' := M1) (n' := n2) G w_RL_142 (by decide) (c11_put _ κm Am _ _ _ _ _ hfm) (show hcls (M, n1) ma = some 11 from (hRx _ _ _ hRR).2) rfl rfl (Nat.le_of_ble_eq_true rfl) dl_990 (by omega) ?_
  show J Γ 8 _ _ _ _ _ [.int r, .int r]
  refine j_icmp_eq (tgt := 1188) E dl_993 (by decide) (fun _ => j_wid (by omega) (by omega) (kk _ _ _ _ hR1)) (fun h => absurd rfl h)
/-- call 30 -/
def S_copy (R : (Nat → Option HO) → (Nat → Option HO) → Nat → Prop) (a ma : Nat) : Prop := ∀ (X M : Nat → Option HO) (n : Nat) (p1 : Int32) (p2 : Int32) (p3 : Int32) (p4 : Int32) (p5 : Int32), R X M n → ∃ (r : Int32) (X' : Nat → Option HO) (n' : Nat) (M' : Nat → Option HO) (n'' : Nat), f10_copy (X, n) a p1 p2 p3 p4 p5 = some (r, (X', n')) ∧ f11_copy (M, n') ma p1 p2 p3 p4 p5 = some (r, (M', n'')) ∧ R X' M' n''
theorem bl_1065 : bdec cL_law 1065 [.aload_n 1, .aload_n 0, .iload 4, .iconst 1, .iadd] = true := by decide +kernel
theorem dl_1071 : decode cL_law 1071 = .ok (.iaload, 1) := by decide +kernel
theorem bl_1072 : bdec cL_law 1072 [.aload_n 0, .iload 4, .iconst 2, .iadd] = true := by decide +kernel
theorem dl_1077 : decode cL_law 1077 = .ok (.iaload, 1) := by decide +kernel
theorem bl_1078 : bdec cL_law 1078 [.aload_n 0, .iload 4, .iconst 3, .iadd] = true := by decide +kernel
theorem dl_1083 : decode cL_law 1083 = .ok (.iaload, 1) := by decide +kernel
theorem bl_1084 : bdec cL_law 1084 [.aload_n 0, .iload 4, .iconst 4, .iadd] = true := by decide +kernel
theorem dl_1089 : decode cL_law 1089 = .ok (.iaload, 1) := by decide +kernel
theorem bl_1090 : bdec cL_law 1090 [.aload_n 0, .iload 4, .iconst 5, .iadd] = true := by decide +kernel
theorem dl_1095 : decode cL_law 1095 = .ok (.iaload, 1) := by decide +kernel
theorem dl_1096 : decode cL_law 1096 = .ok (.invokevirtual 152, 3) := by decide +kernel
theorem bl_1099 : bdec cL_law 1099 [.aload_n 2, .aload_n 0, .iload 4, .iconst 1, .iadd] = true := by decide +kernel
theorem dl_1105 : decode cL_law 1105 = .ok (.iaload, 1) := by decide +kernel
theorem bl_1106 : bdec cL_law 1106 [.aload_n 0, .iload 4, .iconst 2, .iadd] = true := by decide +kernel
theorem dl_1111 : decode cL_law 1111 = .ok (.iaload, 1) := by decide +kernel
theorem bl_1112 : bdec cL_law 1112 [.aload_n 0, .iload 4, .iconst 3, .iadd] = true := by decide +kernel
theorem dl_1117 : decode cL_law 1117 = .ok (.iaload, 1) := by decide +kernel
theorem bl_1118 : bdec cL_law 1118 [.aload_n 0, .iload 4, .iconst 4, .iadd] = true := by decide +kernel
theorem dl_1123 : decode cL_law 1123 = .ok (.iaload, 1) := by decide +kernel
theorem bl_1124 : bdec cL_law 1124 [.aload_n 0, .iload 4, .iconst 5, .iadd] = true := by decide +kernel
theorem dl_1129 : decode cL_law 1129 = .ok (.iaload, 1) := by decide +kernel
theorem dl_1130 : decode cL_law 1130 = .ok (.invokevirtual 156, 3) := by decide +kernel
theorem dl_1133 : decode cL_law 1133 = .ok (.if_icmp .eq 55, 3) := by decide +kernel
set_option maxRecDepth 100000 in
theorem lk_copy {Γ : JC} {κx κm : KP} {Ax Am : Nat → Prop} {o b L a ma : Nat} {cJ : ClassId} {xs : Nat → Int32} {X M : Nat → Option HO} {n : Nat} {v : Int64} {k m i : Nat} (G : LH Γ κx κm Ax Am o cJ b L xs) {R : (Nat → Option HO) → (Nat → Option HO) → Nat → Prop} (hRx : ∀ X M n, R X M n → hcls (X, n) a = some 10 ∧ hcls (M, n) ma = some 11) (hS : S_copy R a ma) (hi : i + 5 < L) (hk : k + 110 ≤ 607560 ∧ m + 110 ≤ 7273423) (hRR : R X M n)
    (kk : ∀ X M n v, R X M n → J Γ 8 (HL κx κm Ax Am cJ o X M n v) (k + 110) (m + 110) 1188 [(0, .ref b), (1, .ref a), (2, .ref ma), (3, .ref o), (4, .int (Int32.ofNat i))] []) : J Γ 8 (HL κx κm Ax Am cJ o X M n v) k m 1065 [(0, .ref b), (1, .ref a), (2, .ref ma), (3, .ref o), (4, .int (Int32.ofNat i))] [] := by
  have E := G.1
  have hLL : L ≤ 3072 := G.2.2.2.2.2.2.2.2.2.2.2.2.2.2.2
  obtain ⟨r, X1, n1, M1, n2, hfx, hfm, hR1⟩ := hS X M n (xs (Int32.ofNat i + Int32.ofInt 1).toNatClampNeg) (xs (Int32.ofNat i + Int32.ofInt 2).toNatClampNeg) (xs (Int32.ofNat i + Int32.ofInt 3).toNatClampNeg) (xs (Int32.ofNat i + Int32.ofInt 4).toNatClampNeg) (xs (Int32.ofNat i + Int32.ofInt 5).toNatClampNeg) hRR
  refine j_blk (pc' := 1071) (lv' := [(0, .ref b), (1, .ref a), (2, .ref ma), (3, .ref o), (4, .int (Int32.ofNat i))]) (st' := [.int (Int32.ofNat i + Int32.ofInt 1), .ref b, .ref a]) E bl_1065 rfl ?_
  refine j_sld G dl_1071 (lw_in1 hi hLL) ?_
  refine j_blk (pc' := 1077) (lv' := [(0, .ref b), (1, .ref a), (2, .ref ma), (3, .ref o), (4, .int (Int32.ofNat i))]) (st' := [.int (Int32.ofNat i + Int32.ofInt 2), .ref b, .int (xs (Int32.ofNat i + Int32.ofInt 1).toNatClampNeg), .ref a]) E bl_1072 rfl ?_
  refine j_sld G dl_1077 (lw_in2 hi hLL) ?_
  refine j_blk (pc' := 1083) (lv' := [(0, .ref b), (1, .ref a), (2, .ref ma), (3, .ref o), (4, .int (Int32.ofNat i))]) (st' := [.int (Int32.ofNat i + Int32.ofInt 3), .ref b, .int (xs (Int32.ofNat i + Int32.ofInt 2).toNatClampNeg), .int (xs (Int32.ofNat i + Int32.ofInt 1).toNatClampNeg), .ref a]) E bl_1078 rfl ?_
  refine j_sld G dl_1083 (lw_in3 hi hLL) ?_
  refine j_blk (pc' := 1089) (lv' := [(0, .ref b), (1, .ref a), (2, .ref ma), (3, .ref o), (4, .int (Int32.ofNat i))]) (st' := [.int (Int32.ofNat i + Int32.ofInt 4), .ref b, .int (xs (Int32.ofNat i + Int32.ofInt 3).toNatClampNeg), .int (xs (Int32.ofNat i + Int32.ofInt 2).toNatClampNeg), .int (xs (Int32.ofNat i + Int32.ofInt 1).toNatClampNeg), .ref a]) E bl_1084 rfl ?_
  refine j_sld G dl_1089 (lw_in4 hi hLL) ?_
  refine j_blk (pc' := 1095) (lv' := [(0, .ref b), (1, .ref a), (2, .ref ma), (3, .ref o), (4, .int (Int32.ofNat i))]) (st' := [.int (Int32.ofNat i + Int32.ofInt 5), .ref b, .int (xs (Int32.ofNat i + Int32.ofInt 4).toNatClampNeg), .int (xs (Int32.ofNat i + Int32.ofInt 3).toNatClampNeg), .int (xs (Int32.ofNat i + Int32.ofInt 2).toNatClampNeg), .int (xs (Int32.ofNat i + Int32.ofInt 1).toNatClampNeg), .ref a]) E bl_1090 rfl ?_
  refine j_sld G dl_1095 (lw_in5 hi hLL) ?_
  refine lw_cx (d := 3) (mc := 0) (ms := 0) [.int (xs (Int32.ofNat i + Int32.ofInt 1).toNatClampNeg), .int (xs (Int32.ofNat i + Int32.ofInt 2).toNatClampNeg), .int (xs (Int32.ofNat i + Int32.ofInt 3).toNatClampNeg), .int (xs (Int32.ofNat i + Int32.ofInt 4).toNatClampNeg), .int (xs (Int32.ofNat i + Int32.ofInt 5).toNatClampNeg)] [] (ov := some (.int r)) (X' := X1) (n' := n1) G w_RL_152 (by decide) (c10_copy _ κx Ax _ _ _ _ _ _ _ hfx) (hRx _ _ _ hRR).1 rfl rfl (Nat.le_of_ble_eq_true rfl) dl_1096 (by omega) ?_
  show J Γ 8 _ _ _ _ _ [.int r]
  refine j_blk (pc' := 1105) (lv' := [(0, .ref b), (1, .ref a), (2, .ref ma), (3, .ref o), (4, .int (Int32.ofNat i))]) (st' := [.int (Int32.ofNat i + Int32.ofInt 1), .ref b, .ref ma, .int r]) E bl_1099 rfl ?_
  refine j_sld G dl_1105 (lw_in1 hi hLL) ?_
  refine j_blk (pc' := 1111) (lv' := [(0, .ref b), (1, .ref a), (2, .ref ma), (3, .ref o), (4, .int (Int32.ofNat i))]) (st' := [.int (Int32.ofNat i + Int32.ofInt 2), .ref b, .int (xs (Int32.ofNat i + Int32.ofInt 1).toNatClampNeg), .ref ma, .int r]) E bl_1106 rfl ?_
  refine j_sld G dl_1111 (lw_in2 hi hLL) ?_
  refine j_blk (pc' := 1117) (lv' := [(0, .ref b), (1, .ref a), (2, .ref ma), (3, .ref o), (4, .int (Int32.ofNat i))]) (st' := [.int (Int32.ofNat i + Int32.ofInt 3), .ref b, .int (xs (Int32.ofNat i + Int32.ofInt 2).toNatClampNeg), .int (xs (Int32.ofNat i + Int32.ofInt 1).toNatClampNeg), .ref ma, .int r]) E bl_1112 rfl ?_
  refine j_sld G dl_1117 (lw_in3 hi hLL) ?_
  refine j_blk (pc' := 1123) (lv' := [(0, .ref b), (1, .ref a), (2, .ref ma), (3, .ref o), (4, .int (Int32.ofNat i))]) (st' := [.int (Int32.ofNat i + Int32.ofInt 4), .ref b, .int (xs (Int32.ofNat i + Int32.ofInt 3).toNatClampNeg), .int (xs (Int32.ofNat i + Int32.ofInt 2).toNatClampNeg), .int (xs (Int32.ofNat i + Int32.ofInt 1).toNatClampNeg), .ref ma, .int r]) E bl_1118 rfl ?_
  refine j_sld G dl_1123 (lw_in4 hi hLL) ?_
  refine j_blk (pc' := 1129) (lv' := [(0, .ref b), (1, .ref a), (2, .ref ma), (3, .ref o), (4, .int (Int32.ofNat i))]) (st' := [.int (Int32.ofNat i + Int32.ofInt 5), .ref b, .int (xs (Int32.ofNat i + Int32.ofInt 4).toNatClampNeg), .int (xs (Int32.ofNat i + Int32.ofInt 3).toNatClampNeg), .int (xs (Int32.ofNat i + Int32.ofInt 2).toNatClampNeg), .int (xs (Int32.ofNat i + Int32.ofInt 1).toNatClampNeg), .ref ma, .int r]) E bl_1124 rfl ?_
  refine j_sld G dl_1129 (lw_in5 hi hLL) ?_
  refine lw_cm (d := 2) (mc := 0) (ms := 0) [.int (xs (Int32.ofNat i + Int32.ofInt 1).toNatClampNeg), .int (xs (Int32.ofNat i + Int32.ofInt 2).toNatClampNeg), .int (xs (Int32.ofNat i + Int32.ofInt 3).toNatClampNeg), .int (xs (Int32.ofNat i + Int32.ofInt 4).toNatClampNeg), .int (xs (Int32.ofNat i + Int32.ofInt 5).toNatClampNeg)] [.int r] (ov := some (.int r)) (M' := M1) (n' := n2) G w_RL_156 (by decide) (c11_copy _ κm Am _ _ _ _ _ _ _ hfm) (show hcls (M, n1) ma = some 11 from (hRx _ _ _ hRR).2) rfl rfl (Nat.le_of_ble_eq_true rfl) dl_1130 (by omega) ?_
  show J Γ 8 _ _ _ _ _ [.int r, .int r]
  refine j_icmp_eq (tgt := 1188) E dl_1133 (by decide) (fun _ => j_wid (by omega) (by omega) (kk _ _ _ _ hR1)) (fun h => absurd rfl h)
/-- call 31 -/
def S_price (R : (Nat → Option HO) → (Nat → Option HO) → Nat → Prop) (a ma : Nat) : Prop := ∀ (X M : Nat → Option HO) (n : Nat) (p1 : Int32), R X M n → ∃ (r : Int32) (X' : Nat → Option HO) (n' : Nat) (M' : Nat → Option HO) (n'' : Nat), obd (f10_price (X, n) a p1) (fun r => some (r, (X, n))) = some (r, (X', n')) ∧ obd (f11_price (M, n') ma p1) (fun r => some (r, (M, n'))) = some (r, (M', n'')) ∧ R X' M' n''
theorem bl_1138 : bdec cL_law 1138 [.aload_n 1, .aload_n 0, .iload 4, .iconst 1, .iadd] = true := by decide +kernel
theorem dl_1144 : decode cL_law 1144 = .ok (.iaload, 1) := by decide +kernel
theorem dl_1145 : decode cL_law 1145 = .ok (.invokevirtual 157, 3) := by decide +kernel
theorem bl_1148 : bdec cL_law 1148 [.aload_n 2, .aload_n 0, .iload 4, .iconst 1, .iadd] = true := by decide +kernel
theorem dl_1154 : decode cL_law 1154 = .ok (.iaload, 1) := by decide +kernel
theorem dl_1155 : decode cL_law 1155 = .ok (.invokevirtual 160, 3) := by decide +kernel
theorem dl_1158 : decode cL_law 1158 = .ok (.if_icmp .eq 30, 3) := by decide +kernel
set_option maxRecDepth 100000 in
theorem lk_price {Γ : JC} {κx κm : KP} {Ax Am : Nat → Prop} {o b L a ma : Nat} {cJ : ClassId} {xs : Nat → Int32} {X M : Nat → Option HO} {n : Nat} {v : Int64} {k m i : Nat} (G : LH Γ κx κm Ax Am o cJ b L xs) {R : (Nat → Option HO) → (Nat → Option HO) → Nat → Prop} (hRx : ∀ X M n, R X M n → hcls (X, n) a = some 10 ∧ hcls (M, n) ma = some 11) (hS : S_price R a ma) (hi : i + 5 < L) (hk : k + 110 ≤ 607560 ∧ m + 110 ≤ 7273423) (hRR : R X M n)
    (kk : ∀ X M n v, R X M n → J Γ 8 (HL κx κm Ax Am cJ o X M n v) (k + 110) (m + 110) 1188 [(0, .ref b), (1, .ref a), (2, .ref ma), (3, .ref o), (4, .int (Int32.ofNat i))] []) : J Γ 8 (HL κx κm Ax Am cJ o X M n v) k m 1138 [(0, .ref b), (1, .ref a), (2, .ref ma), (3, .ref o), (4, .int (Int32.ofNat i))] [] := by
  have E := G.1
  have hLL : L ≤ 3072 := G.2.2.2.2.2.2.2.2.2.2.2.2.2.2.2
  obtain ⟨r, X1, n1, M1, n2, hfx, hfm, hR1⟩ := hS X M n (xs (Int32.ofNat i + Int32.ofInt 1).toNatClampNeg) hRR
  refine j_blk (pc' := 1144) (lv' := [(0, .ref b), (1, .ref a), (2, .ref ma), (3, .ref o), (4, .int (Int32.ofNat i))]) (st' := [.int (Int32.ofNat i + Int32.ofInt 1), .ref b, .ref a]) E bl_1138 rfl ?_
  refine j_sld G dl_1144 (lw_in1 hi hLL) ?_
  obtain ⟨hfx, hq1⟩ := pf_at hfx
  refine lw_cx (d := 4) (mc := 0) (ms := 0) [.int (xs (Int32.ofNat i + Int32.ofInt 1).toNatClampNeg)] [] (ov := some (.int r)) (X' := X1) (n' := n1) G w_RL_157 (by decide) (by rw [hq1]; exact c10_price _ κx Ax _ _ _ hfx) (hRx _ _ _ hRR).1 rfl rfl (Nat.le_of_ble_eq_true rfl) dl_1145 (by omega) ?_
  show J Γ 8 _ _ _ _ _ [.int r]
  refine j_blk (pc' := 1154) (lv' := [(0, .ref b), (1, .ref a), (2, .ref ma), (3, .ref o), (4, .int (Int32.ofNat i))]) (st' := [.int (Int32.ofNat i + Int32.ofInt 1), .ref b, .ref ma, .int r]) E bl_1148 rfl ?_
  refine j_sld G dl_1154 (lw_in1 hi hLL) ?_
  obtain ⟨hfm, hq2⟩ := pf_at hfm
  refine lw_cm (d := 3) (mc := 0) (ms := 0) [.int (xs (Int32.ofNat i + Int32.ofInt 1).toNatClampNeg)] [.int r] (ov := some (.int r)) (M' := M1) (n' := n2) G w_RL_160 (by decide) (by rw [hq2]; exact c11_price _ κm Am _ _ _ hfm) (show hcls (M, n1) ma = some 11 from (hRx _ _ _ hRR).2) rfl rfl (Nat.le_of_ble_eq_true rfl) dl_1155 (by omega) ?_
  show J Γ 8 _ _ _ _ _ [.int r, .int r]
  refine j_icmp_eq (tgt := 1188) E dl_1158 (by decide) (fun _ => j_wid (by omega) (by omega) (kk _ _ _ _ hR1)) (fun h => absurd rfl h)
/-- call 32 -/
def S_toss (R : (Nat → Option HO) → (Nat → Option HO) → Nat → Prop) (a ma : Nat) : Prop := ∀ (X M : Nat → Option HO) (n : Nat) (p1 : Int32), R X M n → ∃ r : Int32, f10_toss (X, n) a p1 = some r ∧ ∀ n1, n ≤ n1 → f11_toss (M, n1) ma p1 = some r ∧ R X M n1
theorem bl_1163 : bdec cL_law 1163 [.aload_n 1, .aload_n 0, .iload 4, .iconst 1, .iadd] = true := by decide +kernel
theorem dl_1169 : decode cL_law 1169 = .ok (.iaload, 1) := by decide +kernel
theorem dl_1170 : decode cL_law 1170 = .ok (.invokevirtual 161, 3) := by decide +kernel
theorem bl_1173 : bdec cL_law 1173 [.aload_n 2, .aload_n 0, .iload 4, .iconst 1, .iadd] = true := by decide +kernel
theorem dl_1179 : decode cL_law 1179 = .ok (.iaload, 1) := by decide +kernel
theorem dl_1180 : decode cL_law 1180 = .ok (.invokevirtual 164, 3) := by decide +kernel
theorem dl_1183 : decode cL_law 1183 = .ok (.if_icmp .eq 5, 3) := by decide +kernel
set_option maxRecDepth 100000 in
theorem lk_toss {Γ : JC} {κx κm : KP} {Ax Am : Nat → Prop} {o b L a ma : Nat} {cJ : ClassId} {xs : Nat → Int32} {X M : Nat → Option HO} {n : Nat} {v : Int64} {k m i : Nat} (G : LH Γ κx κm Ax Am o cJ b L xs) {R : (Nat → Option HO) → (Nat → Option HO) → Nat → Prop} (hRx : ∀ X M n, R X M n → hcls (X, n) a = some 10 ∧ hcls (M, n) ma = some 11) (hS : S_toss R a ma) (hi : i + 5 < L) (hk : k + 110 ≤ 607560 ∧ m + 110 ≤ 7273423) (hRR : R X M n)
    (kk : ∀ X M n v, R X M n → J Γ 8 (HL κx κm Ax Am cJ o X M n v) (k + 110) (m + 110) 1188 [(0, .ref b), (1, .ref a), (2, .ref ma), (3, .ref o), (4, .int (Int32.ofNat i))] []) : J Γ 8 (HL κx κm Ax Am cJ o X M n v) k m 1163 [(0, .ref b), (1, .ref a), (2, .ref ma), (3, .ref o), (4, .int (Int32.ofNat i))] [] := by
  have E := G.1
  have hLL : L ≤ 3072 := G.2.2.2.2.2.2.2.2.2.2.2.2.2.2.2
  obtain ⟨r, hfx, hfm⟩ := hS X M n (xs (Int32.ofNat i + Int32.ofInt 1).toNatClampNeg) hRR
  refine j_blk (pc' := 1169) (lv' := [(0, .ref b), (1, .ref a), (2, .ref ma), (3, .ref o), (4, .int (Int32.ofNat i))]) (st' := [.int (Int32.ofNat i + Int32.ofInt 1), .ref b, .ref a]) E bl_1163 rfl ?_
  refine j_sld G dl_1169 (lw_in1 hi hLL) ?_
  refine lw_toss G (hRx _ _ _ hRR).1 hfx dl_1170 (by omega) (fun n1 hn1 => ?_)
  obtain ⟨hfm, hR1⟩ := hfm n1 hn1
  refine j_blk (pc' := 1179) (lv' := [(0, .ref b), (1, .ref a), (2, .ref ma), (3, .ref o), (4, .int (Int32.ofNat i))]) (st' := [.int (Int32.ofNat i + Int32.ofInt 1), .ref b, .ref ma, .int r]) E bl_1173 rfl ?_
  refine j_sld G dl_1179 (lw_in1 hi hLL) ?_
  refine lw_cm (d := 3) (mc := 0) (ms := 0) [.int (xs (Int32.ofNat i + Int32.ofInt 1).toNatClampNeg)] [.int r] (ov := some (.int r)) (M' := M) (n' := n1) G w_RL_164 (by decide) (c11_toss _ κm Am _ _ _ hfm) (show hcls (M, n1) ma = some 11 from (hRx _ _ _ hRR).2) rfl rfl (Nat.le_of_ble_eq_true rfl) dl_1180 (by omega) ?_
  show J Γ 8 _ _ _ _ _ [.int r, .int r]
  refine j_icmp_eq (tgt := 1188) E dl_1183 (by decide) (fun _ => j_wid (by omega) (by omega) (kk _ _ _ _ hR1)) (fun h => absurd rfl h)
/-- call 29 -/
def S_element (R : (Nat → Option HO) → (Nat → Option HO) → Nat → Prop) (a ma : Nat) : Prop := ∀ (X M : Nat → Option HO) (n : Nat) (p1 p2 : Int32), R X M n → ∃ (fl : Option String) (u : Int64) (r : Int32) (w : Int64), f10_element (X, n) a p1 p2 = some (fl, u) ∧ fel fl = some r ∧ (r = 0 → fl = none ∧ u = w) ∧ ∀ n1, n ≤ n1 → ∃ M' n2, f11_element (M, n1) ma p1 p2 = some (w, (M', n2)) ∧ f11_thrown (M', n2) ma = some r ∧ R X M' n2
theorem bl_998 : bdec cL_law 998 [.aload_n 1, .aload_n 0, .iload 4, .iconst 1, .iadd] = true := by decide +kernel
theorem dl_1004 : decode cL_law 1004 = .ok (.iaload, 1) := by decide +kernel
theorem bl_1005 : bdec cL_law 1005 [.aload_n 0, .iload 4, .iconst 2, .iadd] = true := by decide +kernel
theorem dl_1010 : decode cL_law 1010 = .ok (.iaload, 1) := by decide +kernel
theorem bl_1011 : bdec cL_law 1011 [.aload_n 3] = true := by decide +kernel
theorem dl_1012 : decode cL_law 1012 = .ok (.invokestatic 143, 3) := by decide +kernel
theorem bl_1015 : bdec cL_law 1015 [.istore 5] = true := by decide +kernel
theorem bl_1017 : bdec cL_law 1017 [.aload_n 2, .aload_n 0, .iload 4, .iconst 1, .iadd] = true := by decide +kernel
theorem dl_1023 : decode cL_law 1023 = .ok (.iaload, 1) := by decide +kernel
theorem bl_1024 : bdec cL_law 1024 [.aload_n 0, .iload 4, .iconst 2, .iadd] = true := by decide +kernel
theorem dl_1029 : decode cL_law 1029 = .ok (.iaload, 1) := by decide +kernel
theorem dl_1030 : decode cL_law 1030 = .ok (.invokevirtual 148, 3) := by decide +kernel
theorem bl_1033 : bdec cL_law 1033 [.lstore 6, .aload_n 2] = true := by decide +kernel
theorem dl_1036 : decode cL_law 1036 = .ok (.invokevirtual 149, 3) := by decide +kernel
theorem bl_1039 : bdec cL_law 1039 [.iload 5] = true := by decide +kernel
theorem dl_1041 : decode cL_law 1041 = .ok (.if_icmp .eq 5, 3) := by decide +kernel
theorem dl_1062 : decode cL_law 1062 = .ok (.goto 126, 3) := by decide +kernel
theorem bl_1046 : bdec cL_law 1046 [.iload 5] = true := by decide +kernel
theorem dl_1048 : decode cL_law 1048 = .ok (.ifCond .ne 14, 3) := by decide +kernel
theorem bl_1051 : bdec cL_law 1051 [.aload_n 3, .iconst 0] = true := by decide +kernel
theorem dl_1053 : decode cL_law 1053 = .ok (.laload, 1) := by decide +kernel
theorem bl_1054 : bdec cL_law 1054 [.lload 6, .lcmp] = true := by decide +kernel
theorem dl_1057 : decode cL_law 1057 = .ok (.ifCond .eq 5, 3) := by decide +kernel
set_option maxRecDepth 100000 in
theorem lk_element {Γ : JC} {κx κm : KP} {Ax Am : Nat → Prop} {o b L a ma : Nat} {cJ : ClassId} {xs : Nat → Int32} {X M : Nat → Option HO} {n : Nat} {v : Int64} {k m i : Nat} (G : LH Γ κx κm Ax Am o cJ b L xs) {R : (Nat → Option HO) → (Nat → Option HO) → Nat → Prop} (hRx : ∀ X M n, R X M n → hcls (X, n) a = some 10 ∧ hcls (M, n) ma = some 11) (hS : S_element R a ma) (hi : i + 5 < L) (hk : k + 110 ≤ 607560 ∧ m + 110 ≤ 7273423) (hRR : R X M n)
    (kk : ∀ X M n v, R X M n → J Γ 8 (HL κx κm Ax Am cJ o X M n v) (k + 110) (m + 110) 1188 [(0, .ref b), (1, .ref a), (2, .ref ma), (3, .ref o), (4, .int (Int32.ofNat i))] []) : J Γ 8 (HL κx κm Ax Am cJ o X M n v) k m 998 [(0, .ref b), (1, .ref a), (2, .ref ma), (3, .ref o), (4, .int (Int32.ofNat i))] [] := by
  have E := G.1
  have hLL : L ≤ 3072 := G.2.2.2.2.2.2.2.2.2.2.2.2.2.2.2
  obtain ⟨fl, u, r, w, hfx, hfl, hrw, hfm⟩ := hS X M n (xs (Int32.ofNat i + Int32.ofInt 1).toNatClampNeg) (xs (Int32.ofNat i + Int32.ofInt 2).toNatClampNeg) hRR
  refine j_blk (pc' := 1004) (lv' := [(0, .ref b), (1, .ref a), (2, .ref ma), (3, .ref o), (4, .int (Int32.ofNat i))]) (st' := [.int (Int32.ofNat i + Int32.ofInt 1), .ref b, .ref a]) E bl_998 rfl ?_
  refine j_sld G dl_1004 (lw_in1 hi hLL) ?_
  refine j_blk (pc' := 1010) (lv' := [(0, .ref b), (1, .ref a), (2, .ref ma), (3, .ref o), (4, .int (Int32.ofNat i))]) (st' := [.int (Int32.ofNat i + Int32.ofInt 2), .ref b, .int (xs (Int32.ofNat i + Int32.ofInt 1).toNatClampNeg), .ref a]) E bl_1005 rfl ?_
  refine j_sld G dl_1010 (lw_in2 hi hLL) ?_
  refine j_blk (pc' := 1012) (lv' := [(0, .ref b), (1, .ref a), (2, .ref ma), (3, .ref o), (4, .int (Int32.ofNat i))]) (st' := [.ref o, .int (xs (Int32.ofNat i + Int32.ofInt 2).toNatClampNeg), .int (xs (Int32.ofNat i + Int32.ofInt 1).toNatClampNeg), .ref a]) E bl_1011 rfl ?_
  refine lw_elem G (hRx _ _ _ hRR).1 hfx hfl dl_1012 (by omega) (fun n1 hn1 => ?_)
  obtain ⟨M1, n2, hm1, hm2, hR1⟩ := hfm n1 hn1
  refine j_blk (pc' := 1017) (lv' := [(5, .int r), (0, .ref b), (1, .ref a), (2, .ref ma), (3, .ref o), (4, .int (Int32.ofNat i))]) (st' := []) E bl_1015 rfl ?_
  refine j_blk (pc' := 1023) (lv' := [(5, .int r), (0, .ref b), (1, .ref a), (2, .ref ma), (3, .ref o), (4, .int (Int32.ofNat i))]) (st' := [.int (Int32.ofNat i + Int32.ofInt 1), .ref b, .ref ma]) E bl_1017 rfl ?_
  refine j_sld G dl_1023 (lw_in1 hi hLL) ?_
  refine j_blk (pc' := 1029) (lv' := [(5, .int r), (0, .ref b), (1, .ref a), (2, .ref ma), (3, .ref o), (4, .int (Int32.ofNat i))]) (st' := [.int (Int32.ofNat i + Int32.ofInt 2), .ref b, .int (xs (Int32.ofNat i + Int32.ofInt 1).toNatClampNeg), .ref ma]) E bl_1024 rfl ?_
  refine j_sld G dl_1029 (lw_in2 hi hLL) ?_
  refine lw_cm [.int (xs (Int32.ofNat i + Int32.ofInt 1).toNatClampNeg), .int (xs (Int32.ofNat i + Int32.ofInt 2).toNatClampNeg)] [] (ov := some (.long w)) (M' := M1) (n' := n2) G w_RL_148 (by decide) (c11_element _ κm Am _ _ _ _ hm1) (show hcls (M, n1) ma = some 11 from (hRx _ _ _ hRR).2) rfl rfl (Nat.le_of_ble_eq_true rfl) dl_1030 (by omega) ?_
  show J Γ 8 _ _ _ _ _ [.long w]
  refine j_blk (pc' := 1036) (lv' := [(6, .long w), (5, .int r), (0, .ref b), (1, .ref a), (2, .ref ma), (3, .ref o), (4, .int (Int32.ofNat i))]) (st' := [.ref ma]) E bl_1033 rfl ?_
  refine lw_cm [] [] (ov := some (.int r)) (M' := M1) (n' := n2) G w_RL_149 (by decide) (c11_thrown _ κm Am _ _ hm2) (hRx _ _ _ hR1).2 rfl rfl (Nat.le_of_ble_eq_true rfl) dl_1036 (by omega) ?_
  show J Γ 8 _ _ _ _ _ [.int r]
  refine j_blk (pc' := 1041) (lv' := [(6, .long w), (5, .int r), (0, .ref b), (1, .ref a), (2, .ref ma), (3, .ref o), (4, .int (Int32.ofNat i))]) (st' := [.int r, .int r]) E bl_1039 rfl ?_
  refine j_icmp_eq (tgt := 1046) E dl_1041 (by decide) (fun _ => ?_) (fun h => absurd rfl h)
  have kend : J Γ 8 (HL κx κm Ax Am cJ o X M1 n2 (fel2 fl u v)) (k + 1 + 0 + 0) (m + 6 + 0 + 0) 1062 [(6, .long w), (5, .int r), (0, .ref b), (1, .ref a), (2, .ref ma), (3, .ref o), (4, .int (Int32.ofNat i))] [] := by
    refine j_goto (tgt := 1188) E dl_1062 (by decide) ?_
    refine j_lv (lv' := [(0, .ref b), (1, .ref a), (2, .ref ma), (3, .ref o), (4, .int (Int32.ofNat i))]) [2, 3, 4, 5, 6] rfl ?_
    exact j_wid (by omega) (by omega) (kk _ _ _ _ hR1)
  refine j_blk (pc' := 1048) (lv' := [(6, .long w), (5, .int r), (0, .ref b), (1, .ref a), (2, .ref ma), (3, .ref o), (4, .int (Int32.ofNat i))]) (st' := [.int r]) E bl_1046 rfl ?_
  refine j_if_ne (tgt := 1062) E dl_1048 (by decide) (fun _ => kend) (fun h0 => ?_)
  obtain ⟨hfn, huw⟩ := hrw h0
  refine j_blk (pc' := 1053) (lv' := [(6, .long w), (5, .int r), (0, .ref b), (1, .ref a), (2, .ref ma), (3, .ref o), (4, .int (Int32.ofNat i))]) (st' := [.int (Int32.ofInt 0), .ref o]) E bl_1051 rfl ?_
  refine j_lld G dl_1053 rfl ?_
  refine j_blk (pc' := 1057) (lv' := [(6, .long w), (5, .int r), (0, .ref b), (1, .ref a), (2, .ref ma), (3, .ref o), (4, .int (Int32.ofNat i))]) (st' := [.int (lg_cmp (fel2 fl u v) w)]) E bl_1054 rfl ?_
  refine j_if_eq (tgt := 1062) E dl_1057 (by decide) (fun _ => kend) (fun h => absurd (by rw [hfn, huw]; exact lg_cmp_self w) h)
