/-! THE LAW: its loop -/
theorem dw_26 : decode cL_law 26 = .ok (.arraylength, 1) := by decide +kernel
theorem dw_30 : decode cL_law 30 = .ok (.if_icmp .gt 1164, 3) := by decide +kernel
theorem dw_36 : decode cL_law 36 = .ok (.iaload, 1) := by decide +kernel
theorem dw_40 : decode cL_law 40 = .ok (.tableswitch 1148 0 32 #[148, 173, 210, 235, 272, 297, 310, 347, 372, 385, 398, 411, 424, 437, 450, 499, 512, 538, 575, 624, 661, 686, 723, 748, 761, 774, 799, 860, 909, 958, 1025, 1098, 1123], 148) := by decide +kernel
theorem dw_1191 : decode cL_law 1191 = .ok (.goto (-1168), 3) := by decide +kernel
theorem dw_1195 : decode cL_law 1195 = .ok (.ireturn, 1) := by decide +kernel
theorem bw_23 : bdec cL_law 23 [.iload 4, .aload_n 0] = true := by decide +kernel
theorem bw_27 : bdec cL_law 27 [.bipush 6, .isub] = true := by decide +kernel
theorem bw_33 : bdec cL_law 33 [.aload_n 0, .iload 4] = true := by decide +kernel
theorem bw_37 : bdec cL_law 37 [.bipush 63, .iand] = true := by decide +kernel
theorem bw_1188 : bdec cL_law 1188 [.iinc 4 6] = true := by decide +kernel
theorem bw_1194 : bdec cL_law 1194 [.iconst 1] = true := by decide +kernel
theorem lw_sub6 {L : Nat} (hL : L ≤ 3072) : (Int32.ofNat L - (Int8.ofInt 6).toInt32).toInt = (L : Int) - 6 := by
  rw [Int32.toInt_sub, Int32.toInt_ofNat_of_lt (by omega), show ((Int8.ofInt 6).toInt32).toInt = 6 from by decide]
  exact Int.bmod_eq_of_le_mul_two (by omega) (by omega)
theorem lw_six (t : Nat) : Int32.ofNat (6 * t) + Int32.ofInt 6 = Int32.ofNat (6 * (t + 1)) := by
  rw [show 6 * (t + 1) = 6 * t + 6 from by omega, Int32.ofNat_add]
  rfl
set_option maxRecDepth 100000 in
set_option maxHeartbeats 4000000 in
theorem law_loop {Γ : JC} {κx κm : KP} {Ax Am : Nat → Prop} {o b L a ma : Nat} {cJ : ClassId} {xs : Nat → Int32} (G : LH Γ κx κm Ax Am o cJ b L xs) (hQ : jQ Γ = lw_Z (jB Γ) #[Value.ref b] (jS Γ)) (hV : jV Γ = #[Value.ref b]) (hT : (jT Γ).sig.returnType = ret) (hA : ∀ q, jA Γ q → (jS Γ).heap.size ≤ q) {R : (Nat → Option HO) → (Nat → Option HO) → Nat → Prop} (hRx : ∀ X M n, R X M n → hcls (X, n) a = some 10 ∧ hcls (M, n) ma = some 11)
    (s_league : S_league R a ma)
    (s_one : S_one R a ma)
    (s_comes : S_comes R a ma)
    (s_beat : S_beat R a ma)
    (s_law : S_law R a ma)
    (s_lawful : S_lawful R a ma)
    (s_masters : S_masters R a ma)
    (s_orphans : S_orphans R a ma)
    (s_holding : S_holding R a ma)
    (s_free : S_free R a ma)
    (s_rings : S_rings R a ma)
    (s_cup : S_cup R a ma)
    (s_right : S_right R a ma)
    (s_cheapest : S_cheapest R a ma)
    (s_fresh : S_fresh R a ma)
    (s_leavers : S_leavers R a ma)
    (s_odds : S_odds R a ma)
    (s_ways : S_ways R a ma)
    (s_round : S_round R a ma)
    (s_byRounds : S_byRounds R a ma)
    (s_played : S_played R a ma)
    (s_seeded : S_seeded R a ma)
    (s_judge : S_judge R a ma)
    (s_image : S_image R a ma)
    (s_restore : S_restore R a ma)
    (s_count : S_count R a ma)
    (s_keep : S_keep R a ma)
    (s_row : S_row R a ma)
    (s_put : S_put R a ma)
    (s_element : S_element R a ma)
    (s_copy : S_copy R a ma)
    (s_price : S_price R a ma)
    (s_toss : S_toss R a ma)
    : ∀ (fu t : Nat) (X M : Nat → Option HO) (n : Nat) (v : Int64), 514 ≤ t + fu → 6 * t ≤ 3078 → R X M n → J Γ 8 (HL κx κm Ax Am cJ o X M n v) (50 + 110 * t) (1200 + 110 * t) 23 [(0, .ref b), (1, .ref a), (2, .ref ma), (3, .ref o), (4, .int (Int32.ofNat (6 * t)))] [] := by
  have E := G.1
  have hLL : L ≤ 3072 := G.2.2.2.2.2.2.2.2.2.2.2.2.2.2.2
  have hR := G.2.2.2.2.2.2.2.2.2.2.2.1
  intro fu
  induction fu with
  | zero => intro t X M n v h1 h2; exact absurd h1 (by omega)
  | succ fu ih =>
    intro t X M n v h1 h2 hRR
    refine j_blk (pc' := 26) (lv' := [(0, .ref b), (1, .ref a), (2, .ref ma), (3, .ref o), (4, .int (Int32.ofNat (6 * t)))]) (st' := [.ref b, .int (Int32.ofNat (6 * t))]) E bw_23 rfl ?_
    refine j_slen G dw_26 ?_
    refine j_blk (pc' := 30) (lv' := [(0, .ref b), (1, .ref a), (2, .ref ma), (3, .ref o), (4, .int (Int32.ofNat (6 * t)))]) (st' := [.int (Int32.ofNat L - (Int8.ofInt 6).toInt32), .int (Int32.ofNat (6 * t))]) E bw_27 rfl ?_
    refine j_icmp_gt (tgt := 1194) E dw_30 (by decide) (fun hg => ?_) (fun hg => ?_)
    · refine j_blk (pc' := 1195) (lv' := [(0, .ref b), (1, .ref a), (2, .ref ma), (3, .ref o), (4, .int (Int32.ofNat (6 * t)))]) (st' := [.int 1]) E bw_1194 rfl ?_
      intro H locs ls hH hS hl
      refine va_forget (fun q hq => hA _ (hS.2.2 q hq)) ?_
      rw [hR] at *
      refine W.widen (k := 607560) (n := 7273423) (by omega) (by omega) ?_
      rw [hQ, hV]
      exact lw_ret E.1 E.2.1 hT E.2.2.2.2.2.1 dw_1195
    · have hlt : 6 * t + 5 < L := by
        have h3 : ¬ (Int32.ofNat L - (Int8.ofInt 6).toInt32).toInt < (Int32.ofNat (6 * t)).toInt := fun h => hg (Int32.lt_iff_toInt_lt.mpr h)
        rw [lw_sub6 hLL, Int32.toInt_ofNat_of_lt (by omega)] at h3
        omega
      refine j_blk (pc' := 36) (lv' := [(0, .ref b), (1, .ref a), (2, .ref ma), (3, .ref o), (4, .int (Int32.ofNat (6 * t)))]) (st' := [.int (Int32.ofNat (6 * t)), .ref b]) E bw_33 rfl ?_
      refine j_sld G dw_36 (lw_in0 hlt hLL) ?_
      obtain ⟨w, hw⟩ : ∃ w : Int32, w = xs (Int32.ofNat (6 * t)).toNatClampNeg &&& (Int8.ofInt 63).toInt32 := ⟨_, rfl⟩
      refine j_blk (pc' := 40) (lv' := [(0, .ref b), (1, .ref a), (2, .ref ma), (3, .ref o), (4, .int (Int32.ofNat (6 * t)))]) (st' := [.int w]) E bw_37 (by rw [hw]; rfl) ?_
      have kend : ∀ (X M : Nat → Option HO) (n : Nat) (v : Int64), R X M n → J Γ 8 (HL κx κm Ax Am cJ o X M n v) (50 + 110 * t + 110) (1200 + 110 * t + 110) 1188 [(0, .ref b), (1, .ref a), (2, .ref ma), (3, .ref o), (4, .int (Int32.ofNat (6 * t)))] [] := by
        intro X M n v hRR
        refine j_blk (pc' := 1191) (lv' := [(4, .int (Int32.ofNat (6 * t) + Int32.ofInt 6)), (0, .ref b), (1, .ref a), (2, .ref ma), (3, .ref o)]) (st' := []) E bw_1188 rfl ?_
        refine j_goto (tgt := 23) E dw_1191 (by decide) ?_
        rw [lw_six]
        refine j_lv (lv' := [(0, .ref b), (1, .ref a), (2, .ref ma), (3, .ref o), (4, .int (Int32.ofNat (6 * (t + 1))))]) [1, 2, 3, 4, 0] rfl ?_
        exact ih (t + 1) X M n v (by omega) (by omega) hRR
      have hkk : 50 + 110 * t + 110 ≤ 607560 ∧ 1200 + 110 * t + 110 ≤ 7273423 := by omega
      by_cases hr : w.toInt < 0 ∨ 32 < w.toInt
      · exact j_tout (tgt := 1188) E dw_40 hr (by decide) (j_wid (by omega) (by omega) (kend _ _ _ _ hRR))
      · rcases (show w.toInt = 0 ∨ w.toInt = 1 ∨ w.toInt = 2 ∨ w.toInt = 3 ∨ w.toInt = 4 ∨ w.toInt = 5 ∨ w.toInt = 6 ∨ w.toInt = 7 ∨ w.toInt = 8 ∨ w.toInt = 9 ∨ w.toInt = 10 ∨ w.toInt = 11 ∨ w.toInt = 12 ∨ w.toInt = 13 ∨ w.toInt = 14 ∨ w.toInt = 15 ∨ w.toInt = 16 ∨ w.toInt = 17 ∨ w.toInt = 18 ∨ w.toInt = 19 ∨ w.toInt = 20 ∨ w.toInt = 21 ∨ w.toInt = 22 ∨ w.toInt = 23 ∨ w.toInt = 24 ∨ w.toInt = 25 ∨ w.toInt = 26 ∨ w.toInt = 27 ∨ w.toInt = 28 ∨ w.toInt = 29 ∨ w.toInt = 30 ∨ w.toInt = 31 ∨ w.toInt = 32 by omega) with hc | hc | hc | hc | hc | hc | hc | hc | hc | hc | hc | hc | hc | hc | hc | hc | hc | hc | hc | hc | hc | hc | hc | hc | hc | hc | hc | hc | hc | hc | hc | hc | hc
        · exact j_tin (tgt := 188) (c := Int32.ofInt 0) E dw_40 (Int32.toInt_inj.mp (hc.trans (by decide))) (by decide) (by decide) (off := 148) rfl (by decide) (lk_league G hRx s_league hlt hkk hRR kend)
        · exact j_tin (tgt := 213) (c := Int32.ofInt 1) E dw_40 (Int32.toInt_inj.mp (hc.trans (by decide))) (by decide) (by decide) (off := 173) rfl (by decide) (lk_one G hRx s_one hlt hkk hRR kend)
        · exact j_tin (tgt := 250) (c := Int32.ofInt 2) E dw_40 (Int32.toInt_inj.mp (hc.trans (by decide))) (by decide) (by decide) (off := 210) rfl (by decide) (lk_comes G hRx s_comes hlt hkk hRR kend)
        · exact j_tin (tgt := 275) (c := Int32.ofInt 3) E dw_40 (Int32.toInt_inj.mp (hc.trans (by decide))) (by decide) (by decide) (off := 235) rfl (by decide) (lk_beat G hRx s_beat hlt hkk hRR kend)
        · exact j_tin (tgt := 312) (c := Int32.ofInt 4) E dw_40 (Int32.toInt_inj.mp (hc.trans (by decide))) (by decide) (by decide) (off := 272) rfl (by decide) (lk_law G hRx s_law hlt hkk hRR kend)
        · exact j_tin (tgt := 337) (c := Int32.ofInt 5) E dw_40 (Int32.toInt_inj.mp (hc.trans (by decide))) (by decide) (by decide) (off := 297) rfl (by decide) (lk_lawful G hRx s_lawful hlt hkk hRR kend)
        · exact j_tin (tgt := 350) (c := Int32.ofInt 6) E dw_40 (Int32.toInt_inj.mp (hc.trans (by decide))) (by decide) (by decide) (off := 310) rfl (by decide) (lk_masters G hRx s_masters hlt hkk hRR kend)
        · exact j_tin (tgt := 387) (c := Int32.ofInt 7) E dw_40 (Int32.toInt_inj.mp (hc.trans (by decide))) (by decide) (by decide) (off := 347) rfl (by decide) (lk_orphans G hRx s_orphans hlt hkk hRR kend)
        · exact j_tin (tgt := 412) (c := Int32.ofInt 8) E dw_40 (Int32.toInt_inj.mp (hc.trans (by decide))) (by decide) (by decide) (off := 372) rfl (by decide) (lk_holding G hRx s_holding hlt hkk hRR kend)
        · exact j_tin (tgt := 425) (c := Int32.ofInt 9) E dw_40 (Int32.toInt_inj.mp (hc.trans (by decide))) (by decide) (by decide) (off := 385) rfl (by decide) (lk_free G hRx s_free hlt hkk hRR kend)
        · exact j_tin (tgt := 438) (c := Int32.ofInt 10) E dw_40 (Int32.toInt_inj.mp (hc.trans (by decide))) (by decide) (by decide) (off := 398) rfl (by decide) (lk_rings G hRx s_rings hlt hkk hRR kend)
        · exact j_tin (tgt := 451) (c := Int32.ofInt 11) E dw_40 (Int32.toInt_inj.mp (hc.trans (by decide))) (by decide) (by decide) (off := 411) rfl (by decide) (lk_cup G hRx s_cup hlt hkk hRR kend)
        · exact j_tin (tgt := 464) (c := Int32.ofInt 12) E dw_40 (Int32.toInt_inj.mp (hc.trans (by decide))) (by decide) (by decide) (off := 424) rfl (by decide) (lk_right G hRx s_right hlt hkk hRR kend)
        · exact j_tin (tgt := 477) (c := Int32.ofInt 13) E dw_40 (Int32.toInt_inj.mp (hc.trans (by decide))) (by decide) (by decide) (off := 437) rfl (by decide) (lk_cheapest G hRx s_cheapest hlt hkk hRR kend)
        · exact j_tin (tgt := 490) (c := Int32.ofInt 14) E dw_40 (Int32.toInt_inj.mp (hc.trans (by decide))) (by decide) (by decide) (off := 450) rfl (by decide) (lk_fresh G hRx s_fresh hlt hkk hRR kend)
        · exact j_tin (tgt := 539) (c := Int32.ofInt 15) E dw_40 (Int32.toInt_inj.mp (hc.trans (by decide))) (by decide) (by decide) (off := 499) rfl (by decide) (lk_leavers G hRx s_leavers hlt hkk hRR kend)
        · exact j_tin (tgt := 552) (c := Int32.ofInt 16) E dw_40 (Int32.toInt_inj.mp (hc.trans (by decide))) (by decide) (by decide) (off := 512) rfl (by decide) (lk_odds G hRx s_odds hlt hkk hRR kend)
        · exact j_tin (tgt := 578) (c := Int32.ofInt 17) E dw_40 (Int32.toInt_inj.mp (hc.trans (by decide))) (by decide) (by decide) (off := 538) rfl (by decide) (lk_ways G hRx s_ways hlt hkk hRR kend)
        · exact j_tin (tgt := 615) (c := Int32.ofInt 18) E dw_40 (Int32.toInt_inj.mp (hc.trans (by decide))) (by decide) (by decide) (off := 575) rfl (by decide) (lk_round G hRx s_round hlt hkk hRR kend)
        · exact j_tin (tgt := 664) (c := Int32.ofInt 19) E dw_40 (Int32.toInt_inj.mp (hc.trans (by decide))) (by decide) (by decide) (off := 624) rfl (by decide) (lk_byRounds G hRx s_byRounds hlt hkk hRR kend)
        · exact j_tin (tgt := 701) (c := Int32.ofInt 20) E dw_40 (Int32.toInt_inj.mp (hc.trans (by decide))) (by decide) (by decide) (off := 661) rfl (by decide) (lk_played G hRx s_played hlt hkk hRR kend)
        · exact j_tin (tgt := 726) (c := Int32.ofInt 21) E dw_40 (Int32.toInt_inj.mp (hc.trans (by decide))) (by decide) (by decide) (off := 686) rfl (by decide) (lk_seeded G hRx s_seeded hlt hkk hRR kend)
        · exact j_tin (tgt := 763) (c := Int32.ofInt 22) E dw_40 (Int32.toInt_inj.mp (hc.trans (by decide))) (by decide) (by decide) (off := 723) rfl (by decide) (lk_judge G hRx s_judge hlt hkk hRR kend)
        · exact j_tin (tgt := 788) (c := Int32.ofInt 23) E dw_40 (Int32.toInt_inj.mp (hc.trans (by decide))) (by decide) (by decide) (off := 748) rfl (by decide) (lk_image G hRx s_image hlt hkk hRR kend)
        · exact j_tin (tgt := 801) (c := Int32.ofInt 24) E dw_40 (Int32.toInt_inj.mp (hc.trans (by decide))) (by decide) (by decide) (off := 761) rfl (by decide) (lk_restore G hRx s_restore hlt hkk hRR kend)
        · exact j_tin (tgt := 814) (c := Int32.ofInt 25) E dw_40 (Int32.toInt_inj.mp (hc.trans (by decide))) (by decide) (by decide) (off := 774) rfl (by decide) (lk_count G hRx s_count hlt hkk hRR kend)
        · exact j_tin (tgt := 839) (c := Int32.ofInt 26) E dw_40 (Int32.toInt_inj.mp (hc.trans (by decide))) (by decide) (by decide) (off := 799) rfl (by decide) (lk_keep G hRx s_keep hlt hkk hRR kend)
        · exact j_tin (tgt := 900) (c := Int32.ofInt 27) E dw_40 (Int32.toInt_inj.mp (hc.trans (by decide))) (by decide) (by decide) (off := 860) rfl (by decide) (lk_row G hRx s_row hlt hkk hRR kend)
        · exact j_tin (tgt := 949) (c := Int32.ofInt 28) E dw_40 (Int32.toInt_inj.mp (hc.trans (by decide))) (by decide) (by decide) (off := 909) rfl (by decide) (lk_put G hRx s_put hlt hkk hRR kend)
        · exact j_tin (tgt := 998) (c := Int32.ofInt 29) E dw_40 (Int32.toInt_inj.mp (hc.trans (by decide))) (by decide) (by decide) (off := 958) rfl (by decide) (lk_element G hRx s_element hlt hkk hRR kend)
        · exact j_tin (tgt := 1065) (c := Int32.ofInt 30) E dw_40 (Int32.toInt_inj.mp (hc.trans (by decide))) (by decide) (by decide) (off := 1025) rfl (by decide) (lk_copy G hRx s_copy hlt hkk hRR kend)
        · exact j_tin (tgt := 1138) (c := Int32.ofInt 31) E dw_40 (Int32.toInt_inj.mp (hc.trans (by decide))) (by decide) (by decide) (off := 1098) rfl (by decide) (lk_price G hRx s_price hlt hkk hRR kend)
        · exact j_tin (tgt := 1163) (c := Int32.ofInt 32) E dw_40 (Int32.toInt_inj.mp (hc.trans (by decide))) (by decide) (by decide) (off := 1123) rfl (by decide) (lk_toss G hRx s_toss hlt hkk hRR kend)
