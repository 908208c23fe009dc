/-! THE LAW from its entry, over a relation R of the two heaps -/
def fs10 : List Value := [.null, .null, .null, .null, .int 0, .null, .null, .null]
theorem dv_10 : ∀ j, j < 8 → defaultValue (tyX10 j) = vp_V fs10 j := fun j hj => by rcases (show j = 0 ∨ j = 1 ∨ j = 2 ∨ j = 3 ∨ j = 4 ∨ j = 5 ∨ j = 6 ∨ j = 7 by omega) with rfl | rfl | rfl | rfl | rfl | rfl | rfl | rfl <;> rfl
def fs11 : List Value := [.null, .null, .null, .null, .null, .null, .null, .null, .null, .null, .int 0, .int 0, .int 0, .int 0, .int 0, .null, .int 0, .int 0, .int 0]
theorem dv_11 : ∀ j, j < 19 → defaultValue (tyX11 j) = vp_V fs11 j := fun j hj => by rcases (show j = 0 ∨ j = 1 ∨ j = 2 ∨ j = 3 ∨ j = 4 ∨ j = 5 ∨ j = 6 ∨ j = 7 ∨ j = 8 ∨ j = 9 ∨ j = 10 ∨ j = 11 ∨ j = 12 ∨ j = 13 ∨ j = 14 ∨ j = 15 ∨ j = 16 ∨ j = 17 ∨ j = 18 by omega) with rfl | rfl | rfl | rfl | rfl | rfl | rfl | rfl | rfl | rfl | rfl | rfl | rfl | rfl | rfl | rfl | rfl | rfl | rfl <;> rfl
theorem w_RL_17 : CI RL 17 yX10_init cX10_init 1 0 := ⟨m_69, m_45, m_67, m_68, rfl, by decide +kernel⟩
theorem w_RL_20 : CI RL 20 yX11_init cX11_init 1 0 := ⟨m_801, m_48, m_799, m_800, rfl, by decide +kernel⟩
theorem de_0 : decode cL_law 0 = .ok (.new 8, 3) := by decide +kernel
theorem de_4 : decode cL_law 4 = .ok (.invokespecial 17, 3) := by decide +kernel
theorem de_8 : decode cL_law 8 = .ok (.new 18, 3) := by decide +kernel
theorem de_12 : decode cL_law 12 = .ok (.invokespecial 20, 3) := by decide +kernel
theorem de_17 : decode cL_law 17 = .ok (.newarray .long, 2) := by decide +kernel
theorem be_3 : bdec cL_law 3 [.dup] = true := by decide +kernel
theorem be_7 : bdec cL_law 7 [.astore_n 1] = true := by decide +kernel
theorem be_11 : bdec cL_law 11 [.dup] = true := by decide +kernel
theorem be_15 : bdec cL_law 15 [.astore_n 2, .iconst 1] = true := by decide +kernel
theorem be_19 : bdec cL_law 19 [.astore_n 3, .iconst 0, .istore 4] = true := by decide +kernel
def cutL (Y : Nat → Option HO) (n : Nat) : Nat → Option HO := fun q => if q < n then Y q else none
def cutG (Y : Nat → Option HO) (n : Nat) : Nat → Option HO := fun q => if q < n then none else Y q
def S_init (R : Nat → Nat → (Nat → Option HO) → (Nat → Option HO) → Nat → Prop) : Prop := ∀ h0 : Nat, ∃ (X : Nat → Option HO) (n1 : Nat) (Y : Nat → Option HO) (n2 : Nat), f10_init (hnew (fun _ => none, h0) (.inl (10, fs10))) h0 = some (X, n1) ∧ f11_init (hnew (X, n1) (.inl (11, fs11))) n1 = some (Y, n2) ∧ h0 < n1 ∧ n1 < n2 ∧ R h0 n1 (cutL Y n1) (cutG Y n1) (n2 + 1)
def AxL (h0 n1 n2 : Nat) : Nat → Prop := fun q => h0 ≤ q ∧ ¬ (n1 ≤ q ∧ q < n2) ∧ q ≠ n2
def AmL (n1 n2 : Nat) : Nat → Prop := fun q => n1 ≤ q ∧ q < n2
set_option maxRecDepth 100000 in
set_option maxHeartbeats 4000000 in
theorem law_start {p : Program} {e : Env} {s : State} {m : MethodId} {below : List Frame} {meth : Method} {c : Code} (l : Launch) (hflags : l.flags = flags0) {b L : Nat} {xs : Nat → Int32} (hL : L ≤ 3072) (C0 : lw_At p s m meth c b L xs) {R : Nat → Nat → (Nat → Option HO) → (Nat → Option HO) → Nat → Prop} (hI : S_init R) (hRx : ∀ a ma X M n, R a ma X M n → hcls (X, n) a = some 10 ∧ hcls (M, n) ma = some 11)
    (s_league : ∀ a ma, S_league (R a ma) a ma)
    (s_one : ∀ a ma, S_one (R a ma) a ma)
    (s_comes : ∀ a ma, S_comes (R a ma) a ma)
    (s_beat : ∀ a ma, S_beat (R a ma) a ma)
    (s_law : ∀ a ma, S_law (R a ma) a ma)
    (s_lawful : ∀ a ma, S_lawful (R a ma) a ma)
    (s_masters : ∀ a ma, S_masters (R a ma) a ma)
    (s_orphans : ∀ a ma, S_orphans (R a ma) a ma)
    (s_holding : ∀ a ma, S_holding (R a ma) a ma)
    (s_free : ∀ a ma, S_free (R a ma) a ma)
    (s_rings : ∀ a ma, S_rings (R a ma) a ma)
    (s_cup : ∀ a ma, S_cup (R a ma) a ma)
    (s_right : ∀ a ma, S_right (R a ma) a ma)
    (s_cheapest : ∀ a ma, S_cheapest (R a ma) a ma)
    (s_fresh : ∀ a ma, S_fresh (R a ma) a ma)
    (s_leavers : ∀ a ma, S_leavers (R a ma) a ma)
    (s_odds : ∀ a ma, S_odds (R a ma) a ma)
    (s_ways : ∀ a ma, S_ways (R a ma) a ma)
    (s_round : ∀ a ma, S_round (R a ma) a ma)
    (s_byRounds : ∀ a ma, S_byRounds (R a ma) a ma)
    (s_played : ∀ a ma, S_played (R a ma) a ma)
    (s_seeded : ∀ a ma, S_seeded (R a ma) a ma)
    (s_judge : ∀ a ma, S_judge (R a ma) a ma)
    (s_image : ∀ a ma, S_image (R a ma) a ma)
    (s_restore : ∀ a ma, S_restore (R a ma) a ma)
    (s_count : ∀ a ma, S_count (R a ma) a ma)
    (s_keep : ∀ a ma, S_keep (R a ma) a ma)
    (s_row : ∀ a ma, S_row (R a ma) a ma)
    (s_put : ∀ a ma, S_put (R a ma) a ma)
    (s_element : ∀ a ma, S_element (R a ma) a ma)
    (s_copy : ∀ a ma, S_copy (R a ma) a ma)
    (s_price : ∀ a ma, S_price (R a ma) a ma)
    (s_toss : ∀ a ma, S_toss (R a ma) a ma)
    : W p l e room_1 s m #[Value.ref b] below meth c s.heap [] 0 0 (lw_Z below #[Value.ref b] s) (entryFrame m ([Value.ref b] : List Value).toArray 8) := by
  obtain ⟨hx, hb, hr, hml, hown, hts, hX, hbl, hlocks, hgv⟩ := C0
  obtain ⟨dC, dI, cI, cR, tL, tG, hKX⟩ := kx_at hts hgv
  have hKY := ky_at hts hgv
  have good : ∀ w ∈ WT, w.before #[Value.ref b] s = true := fun w hw => hts w (List.mem_filter.mp hw).1
  have hlt : l.stackTraces = false := by
    unfold Launch.stackTraces
    rw [hflags]
    decide +kernel
  obtain ⟨Γ, hΓ⟩ : ∃ Γ : JC, Γ = ((p, l, e, room_1), (s, m, #[Value.ref b], below), (meth, c), (hA0 s, lw_Z below #[Value.ref b] s)) := ⟨_, rfl⟩
  have hE : ∀ f : Bool, JE Γ (dC, dI, cI, cR, tL, tG, f) cL_law RL 8 (some .boolean) := fun f => by
    subst hΓ
    exact ⟨hx, hb, hml, hown, good, hlocks, trivial, hKX f, hr⟩
  have hR : jR Γ = room_1 := by subst hΓ; rfl
  have hAA : ∀ q, hA0 s q → jA Γ q := fun q h => by subst hΓ; exact h
  have hAA2 : ∀ q, jA Γ q → hA0 s q := fun q h => by subst hΓ; exact h
  have hS0 : (jS Γ) = s := by subst hΓ; rfl
  have hL0 : (jL Γ) = l := by subst hΓ; rfl
  have key : J Γ 8 (HS (dC, dI, cI, cR, tL, tG, true) (hA0 s) (fun _ => none, s.heap.size)) 0 0 0 [(0, .ref b)] [] := by
    have E := hE true
    obtain ⟨X, n1, Y, n2, f1, f2, g1, g2, hRR⟩ := hI s.heap.size
    refine j_new (ci := 10) (fs := fs10) E rfl ⟨m_65, m_66, m_45⟩ ux_10 tyX10_ok dv_10 de_0 (by rw [hR]; decide) (by rw [hR]; decide) rfl ?_
    refine j_blk (pc' := 4) (lv' := [(0, .ref b)]) (st' := [.ref s.heap.size, .ref s.heap.size]) E be_3 rfl ?_
    refine j_calli (mc := 13) (ms := 85) (d := 2) [] [.ref s.heap.size] E w_RL_17 (by rw [hR]; decide) hAA (c10_init _ _ _ rfl _ _ f1) (fun _ h => h) (fun _ _ _ h _ _ => h) rfl rfl (Nat.le_of_ble_eq_true rfl) de_4 (by rw [hR]; decide) ?_
    refine j_blk (pc' := 8) (lv' := [(1, .ref s.heap.size), (0, .ref b)]) (st' := []) E be_7 rfl ?_
    refine j_new (ci := 11) (fs := fs11) E rfl ⟨m_797, m_798, m_48⟩ ux_11 tyX11_ok dv_11 de_8 (by rw [hR]; decide) (by rw [hR]; decide) rfl ?_
    refine j_blk (pc' := 12) (lv' := [(1, .ref s.heap.size), (0, .ref b)]) (st' := [.ref n1, .ref n1]) E be_11 rfl ?_
    refine j_calli (mc := 11) (ms := 946) (d := 1) [] [.ref n1] E w_RL_20 (by rw [hR]; decide) hAA (c11_init _ _ _ rfl _ _ f2) (fun _ h => h) (fun _ _ _ h _ _ => h) rfl rfl (Nat.le_of_ble_eq_true rfl) de_12 (by rw [hR]; decide) ?_
    refine j_blk (pc' := 17) (lv' := [(2, .ref n1), (1, .ref s.heap.size), (0, .ref b)]) (st' := [.int (Int32.ofInt 1)]) E be_15 rfl ?_
    intro H locs ls hH hS hl
    refine va_newaK (atype := .long) (N := 1) E.1 E.2.1 (E.2.2.2.2.1 _ m_1179) rfl de_17 rfl (by decide) (by decide) (by decide) (by rw [hR]; decide) (by rw [hR]; decide) hH.1.1 fun H1 cA e1 z1 o1 hAr hNm => ?_
    have hG : LH Γ (dC, dI, cI, cR, tL, tG, true) (dC, dI, cI, cR, tL, tG, false) (AxL s.heap.size n1 n2) (AmL n1 n2) n2 cA b L xs := by
      refine ⟨hE true, hE false, fun q h => hAA q h.1, fun q h => hAA q (Nat.le_trans (Nat.le_of_lt g1) h.1), hAA n2 (Nat.le_of_lt (Nat.lt_trans g1 g2)), fun h => absurd (hAA2 b h) (Nat.not_le.mpr hbl), by rw [hS0]; exact hbl, by rw [hS0]; exact hX, ?_, by rw [hL0]; exact hlt, hAr, hR, fun q h1 h2 => h1.2.1 h2, ⟨fun h => h.2.2 rfl, fun h => Nat.lt_irrefl _ h.2⟩, rfl, hL⟩
      have h3 := KY_up hKY (B := jA Γ) hAA2
      rw [hS0]
      exact h3
    have hH1 : HL (dC, dI, cI, cR, tL, tG, true) (dC, dI, cI, cR, tL, tG, false) (AxL s.heap.size n1 n2) (AmL n1 n2) cA n2 (cutL Y n1) (cutG Y n1) (n2 + 1) 0 H1 := by
      refine ⟨⟨⟨z1, fun _ q hq => ?_⟩, fun q u hq => ?_⟩, ⟨⟨z1, fun h => by cases h⟩, fun q u hq => ?_⟩, ⟨fun _ => 0, rfl, e1⟩⟩
      · have hq2 : n2 + 1 ≤ q := hq
        exact ⟨by omega, by omega, by omega⟩
      · simp only [cutL] at hq
        split at hq
        · rename_i hlt1
          have h4 := hH.2 q u hq
          exact ⟨⟨h4.1, by omega, by omega⟩, h4.2.kept (o1 q (Nat.lt_trans hlt1 g2))⟩
        · cases hq
      · simp only [cutG] at hq
        split at hq
        · cases hq
        · rename_i hge
          have h4 := hH.2 q u hq
          have h5 : q < n2 := by
            have h6 := h4.2.lt
            rw [hH.1.1] at h6
            exact h6
          exact ⟨⟨by omega, h5⟩, h4.2.kept (o1 q h5)⟩
    have kl : J Γ 8 (HL (dC, dI, cI, cR, tL, tG, true) (dC, dI, cI, cR, tL, tG, false) (AxL s.heap.size n1 n2) (AmL n1 n2) cA n2 (cutL Y n1) (cutG Y n1) (n2 + 1) 0) (0 + 1 + 13 + 1 + 11 + 1) (0 + 8 + 85 + 19 + 946 + 1) 19 [(2, .ref n1), (1, .ref s.heap.size), (0, .ref b)] [.ref n2] := by
      refine j_blk (pc' := 23) (lv' := [(4, .int (Int32.ofInt 0)), (3, .ref n2), (2, .ref n1), (1, .ref s.heap.size), (0, .ref b)]) (st' := []) E be_19 rfl ?_
      rw [show Int32.ofInt 0 = Int32.ofNat (6 * 0) from by decide]
      refine j_lv (lv' := [(0, .ref b), (1, .ref s.heap.size), (2, .ref n1), (3, .ref n2), (4, .int (Int32.ofNat (6 * 0)))]) [4, 3, 2, 1, 0] rfl ?_
      refine j_wid (k' := 50 + 110 * 0) (n' := 1200 + 110 * 0) (by decide) (by decide) ?_
      exact law_loop hG (by subst hΓ; rfl) (by subst hΓ; rfl) (by subst hΓ; exact hr) (fun q h => by rw [hS0]; exact hAA2 q h) (hRx _ _) (s_league _ _) (s_one _ _) (s_comes _ _) (s_beat _ _) (s_law _ _) (s_lawful _ _) (s_masters _ _) (s_orphans _ _) (s_holding _ _) (s_free _ _) (s_rings _ _) (s_cup _ _) (s_right _ _) (s_cheapest _ _) (s_fresh _ _) (s_leavers _ _) (s_odds _ _) (s_ways _ _) (s_round _ _) (s_byRounds _ _) (s_played _ _) (s_seeded _ _) (s_judge _ _) (s_image _ _) (s_restore _ _) (s_count _ _) (s_keep _ _) (s_row _ _) (s_put _ _) (s_element _ _) (s_copy _ _) (s_price _ _) (s_toss _ _) 514 0 _ _ _ _ (by decide) (by decide) hRR
    refine kl H1 locs ls hH1 ⟨?_, fun q h1 h2 => ?_, hS.2.2⟩ hl
    · refine Nat.le_trans hS.1 ?_
      rw [z1, hH.1.1]
      exact Nat.le_succ _
    · have h6 := hS.1
      rw [hH.1.1] at h6
      exact (o1 q (Nat.lt_of_lt_of_le h1 h6)).trans (hS.2.1 q h1 h2)
  have hH0 : HS (dC, dI, cI, cR, tL, tG, true) (hA0 s) (fun _ => none, s.heap.size) s.heap := ⟨⟨rfl, fun _ q hq => hq⟩, fun q u hq => by cases hq⟩
  subst hΓ
  have K := key s.heap [] _ hH0 va_S.rf (lv_entry [.ref b] (n := 8) (Nat.le_of_ble_eq_true rfl))
  rw [lg_entry_eq]
  exact K
