/-! PURE: what stays; become, lays; beat, law, image, restore -/
section FRAME
variable {a ma nx nx' : Nat} {X X' M M' : Nat → Option HO}
theorem d_LG_fr {ad : Nat} {P K F : Nat → Nat} {n : Nat} {lw : Int32} {B : Nat → Int32} (h : d_LG a nx X ad P K F n lw B) (hn : nx ≤ nx') (ok : ∀ q, d_ok a nx q → X' q = X q) (h0 : X' ad = X ad) (h1 : X' (ad + 1) = X (ad + 1)) (h2 : X' (ad + 2) = X (ad + 2)) : d_LG a nx' X' ad P K F n lw B := by
  obtain ⟨⟨⟨b1, PA, b2, b3⟩, b4, b5⟩, b6, b7⟩ := h
  refine ⟨⟨⟨h0.trans b1, PA, h1.trans b2, b3⟩, fun i hi => ⟨⟨(ok _ (b7 i hi)).trans (b4 i hi).1.1, (b4 i hi).1.2⟩, (b4 i hi).2⟩, b5⟩, h2.trans b6, fun i hi => ?_⟩
  rcases b7 i hi with e | ⟨e1, e2⟩
  · exact Or.inl e
  · exact Or.inr ⟨e1, by omega⟩
theorem d_SH_fr {kp so sz el kk kf : Nat → Int32} {d : Nat} {po ro : Option Nat} {c : Nat} (h : d_SH a nx X kp so sz el kk kf d po ro c) (hn : nx ≤ nx') (ok : ∀ q, d_ok a nx q → X' q = X q) : d_SH a nx' X' kp so sz el kk kf d po ro c := by
  rcases h with h | ⟨b1, b2, q, k, f, b3, b4, b5, b6⟩ | ⟨b1, b2, r, t, m, g, b3, b4, b5, b6, b7, b8, b9, b10⟩
  · exact Or.inl h
  · refine Or.inr (Or.inl ⟨b1, b2, q, k, f, b3, ?_, ⟨(ok _ b4).trans b5.1, b5.2⟩, b6⟩)
    rcases b4 with e | ⟨e1, e2⟩
    · exact Or.inl e
    · exact Or.inr ⟨e1, by omega⟩
  · exact Or.inr (Or.inr ⟨b1, b2, r, t, m, g, b3, b4, by omega, b6, by omega, (ok _ (Or.inr ⟨b4, b5⟩)).trans b8, (ok _ (Or.inr ⟨b6, b7⟩)).trans b9, b10⟩)
theorem d_RS_fr (h : d_RS a ma nx X M) (hn : nx ≤ nx') (ok : ∀ q, d_ok a nx q → X' q = X q) (h0 : X' (a + 11) = X (a + 11)) (h1 : X' (a + 12) = X (a + 12)) (hM : ∀ k, 5 ≤ k → k ≤ 10 → M' (ma + k) = M (ma + k)) : d_RS a ma nx' X' M' := by
  obtain ⟨PS, RS, c, kp, so, sz, el, kk, kf, ⟨b1, b2⟩, ⟨b3, b4, b5, b6, b7, b8⟩, b9, b10⟩ := h
  exact ⟨PS, RS, c, kp, so, sz, el, kk, kf, ⟨h0.trans b1, h1.trans b2⟩, ⟨(hM 5 (by omega) (by omega)).trans b3, (hM 6 (by omega) (by omega)).trans b4, (hM 7 (by omega) (by omega)).trans b5, (hM 8 (by omega) (by omega)).trans b6, (hM 9 (by omega) (by omega)).trans b7, (hM 10 (by omega) (by omega)).trans b8⟩, fun d hd => d_SH_fr (b9 d hd) hn ok, b10⟩
theorem d_RN_fr (h : d_RN a ma nx X M) (hn : nx ≤ nx') (ok : ∀ q, d_ok a nx q → X' q = X q) (h0 : X' (a + 2) = X (a + 2)) (h1 : X' (a + 3) = X (a + 3)) (h2 : X' (a + 4) = X (a + 4)) (hM : ∀ S n K F B lw, M (ma + 1) = d_A 26 S → n ≤ 8 → d_MS S n K F B lw → ∃ S', M' (ma + 1) = d_A 26 S' ∧ d_MS S' n K F B lw) : d_RN a ma nx' X' M' := by
  obtain ⟨P, K, F, n, lw, B, S, b1, b2, b3, b4⟩ := h
  obtain ⟨S', c1, c2⟩ := hM S n K F B lw b3 b1.1.2.2 b4
  exact ⟨P, K, F, n, lw, B, S', d_LG_fr b1 hn ok h0 h1 h2, b2, c1, c2⟩
theorem d_RI_fr {hi : Int32} (h : d_RI a ma nx X M hi) (hn : nx ≤ nx') (ok : ∀ q, d_ok a nx q → X' q = X q) (h0 : X' (a + 8) = X (a + 8)) (h1 : X' (a + 9) = X (a + 9)) (h2 : X' (a + 10) = X (a + 10)) (hM : M' (ma + 2) = M (ma + 2)) : d_RI a ma nx' X' M' hi := by
  obtain ⟨P, K, F, n, lw, B, S, b1, b3, b4⟩ := h
  exact ⟨P, K, F, n, lw, B, S, d_LG_fr b1 hn ok h0 h1 h2, hM.trans b3, b4⟩
theorem d_RD_fr (h : d_RD a ma nx X M) (hn : nx ≤ nx') (ok : ∀ q, d_ok a nx q → X' q = X q) (h0 : X' (a + 5) = X (a + 5)) (h1 : X' (a + 6) = X (a + 6)) (h2 : X' (a + 7) = X (a + 7)) (h3 : X' (a + 13) = X (a + 13)) (hM3 : M' (ma + 3) = M (ma + 3)) (hM4 : M' (ma + 4) = M (ma + 4)) (hM11 : M' (ma + 11) = M (ma + 11)) : d_RD a ma nx' X' M' := by
  obtain ⟨⟨P, K, F, n, lw, B, b1⟩, ⟨t, b2⟩, b3, ⟨D, b4⟩, ⟨T, b5⟩, u, b6⟩ := h
  exact ⟨⟨P, K, F, n, lw, B, d_LG_fr b1 hn ok h0 h1 h2⟩, ⟨t, h3.trans b2⟩, ⟨(ok _ (Or.inl rfl)).trans b3.1, b3.2⟩, ⟨D, hM3.trans b4⟩, ⟨T, hM4.trans b5⟩, u, hM11.trans b6⟩
theorem d_ok_lt {q : Nat} (ha : a + 14 ≤ nx) (h : d_ok a nx q) : q < nx ∧ ¬ (a + 2 ≤ q ∧ q ≤ a + 13) ∧ q ≠ a := by
  unfold d_ok at h; omega
/-- the league now is another one -/
theorem d_R_now (h : d_R a ma X M nx) (hn : nx ≤ nx') (hX : ∀ q, q < nx → ¬ (a + 2 ≤ q ∧ q ≤ a + 4) → X' q = X q) (hM : ∀ q, q ≠ ma + 1 → M' q = M q) (hN : d_RN a ma nx' X' M') : d_R a ma X' M' nx' := by
  obtain ⟨hi, b1, b2, ⟨th, po, ba, en, lt, lp, sd, b3⟩, b4, b5, b6, b7⟩ := h
  have ok : ∀ q, d_ok a nx q → X' q = X q := fun q hq => hX q (d_ok_lt b2 hq).1 (by have := (d_ok_lt b2 hq).2.1; omega)
  exact ⟨hi, (hX a (by omega) (by omega)).trans b1, by omega, ⟨th, po, ba, en, lt, lp, sd, (hM ma (by omega)).trans b3⟩, hN, d_RI_fr b5 hn ok (hX _ (by omega) (by omega)) (hX _ (by omega) (by omega)) (hX _ (by omega) (by omega)) (hM _ (by omega)), d_RD_fr b6 hn ok (hX _ (by omega) (by omega)) (hX _ (by omega) (by omega)) (hX _ (by omega) (by omega)) (hX _ (by omega) (by omega)) (hM _ (by omega)) (hM _ (by omega)) (hM _ (by omega)), d_RS_fr b7 hn ok (hX _ (by omega) (by omega)) (hX _ (by omega) (by omega)) (fun k h1 h2 => hM _ (by omega))⟩
/-- only what is in mind is another one -/
theorem d_R_mind (h : d_R a ma X M nx) (hn : nx ≤ nx') (hX : ∀ q, q < nx → ¬ (a + 5 ≤ q ∧ q ≤ a + 7) → q ≠ a + 13 → X' q = X q) (hM : ∀ k, k = 2 ∨ (5 ≤ k ∧ k ≤ 10) → M' (ma + k) = M (ma + k)) (hO : ∀ hi th po ba en lt lp sd, d_MO M ma hi th po ba en lt lp sd → ∃ th po ba en lt lp sd, d_MO M' ma hi th po ba en lt lp sd) (hS : ∀ S n K F B lw, M (ma + 1) = d_A 26 S → n ≤ 8 → d_MS S n K F B lw → ∃ S', M' (ma + 1) = d_A 26 S' ∧ d_MS S' n K F B lw) (hD : ∃ P K F n lw B, d_LG a nx' X' (a + 5) P K F n lw B) (hT : ∃ t, X' (a + 13) = d_A 8 t) (hM3 : (∃ D, M' (ma + 3) = d_A 26 D) ∧ (∃ T, M' (ma + 4) = d_A 26 T) ∧ ∃ u, M' (ma + 11) = d_A 2 u) : d_R a ma X' M' nx' := by
  obtain ⟨hi, b1, b2, ⟨th, po, ba, en, lt, lp, sd, b3⟩, b4, b5, b6, b7⟩ := h
  have ok : ∀ q, d_ok a nx q → X' q = X q := fun q hq => hX q (d_ok_lt b2 hq).1 (by have := (d_ok_lt b2 hq).2.1; omega) (by have := (d_ok_lt b2 hq).2.1; omega)
  exact ⟨hi, (hX a (by omega) (by omega) (by omega)).trans b1, by omega, hO _ _ _ _ _ _ _ _ b3, d_RN_fr b4 hn ok (hX _ (by omega) (by omega) (by omega)) (hX _ (by omega) (by omega) (by omega)) (hX _ (by omega) (by omega) (by omega)) hS, d_RI_fr b5 hn ok (hX _ (by omega) (by omega) (by omega)) (hX _ (by omega) (by omega) (by omega)) (hX _ (by omega) (by omega) (by omega)) (hM _ (by omega)), ⟨hD, hT, ⟨(ok _ (Or.inl rfl)).trans b6.2.2.1.1, b6.2.2.1.2⟩, hM3⟩, d_RS_fr b7 hn ok (hX _ (by omega) (by omega) (by omega)) (hX _ (by omega) (by omega) (by omega)) (fun k h1 h2 => hM _ (by omega))⟩
end FRAME
theorem d_LX_cB {X : Nat → Option HO} {ad n : Nat} {P K F : Nat → Nat} {lw : Int32} {B : Nat → Int32} (L : d_LX X ad P K F n lw) : d_LX (d_cB X ad B) ad P K F n lw := by
  obtain ⟨⟨b1, PA, b2, b3⟩, b4, b5⟩ := L
  exact ⟨⟨d_cB_0.trans b1, PA, d_cB_1.trans b2, b3⟩, fun i hi => ⟨⟨(d_cB_ne (b4 i hi).2).trans (b4 i hi).1.1, (b4 i hi).1.2⟩, (b4 i hi).2⟩, b5⟩
theorem d_LG_cB {a nx : Nat} {X : Nat → Option HO} {ad n : Nat} {P K F : Nat → Nat} {lw : Int32} {B : Nat → Int32} (L : d_LX X ad P K F n lw) (h : ∀ i, i < 8 → d_ok a nx (P i)) : d_LG a nx (d_cB X ad B) ad P K F n lw B := ⟨d_LX_cB L, d_cB_at, h⟩
theorem d_upd_c {B B' : Nat → Int32} {n : Nat} (h : ∀ i, i < n → B i = B' i) (k : Nat) (x : Int32) : ∀ i, i < n → upd B k x i = upd B' k x i := fun i hi => by unfold upd; split; rfl; exact h i hi
theorem d_TB_c {B B' : Nat → Int32} {n : Nat} (h : ∀ i, i < n → B i = B' i) (T : d_TB n B) : d_TB n B' := ⟨fun i hi j hj => h i hi ▸ T.1 i hi j hj, fun i hi => h i hi ▸ T.2.1 i hi, fun i j hi hj e => by rw [← h i hi, ← h j hj]; exact T.2.2 i j hi hj e⟩
theorem d_MS_c {S S' : Nat → Int32} {n : Nat} {K F : Nat → Nat} {B : Nat → Int32} {lw : Int32} (hn : n ≤ 8) (h : ∀ i, i < 26 → S' i = S i) (hS : d_MS S n K F B lw) : d_MS S' n K F B lw :=
  ⟨(h 0 (by omega)).trans hS.1, (h 1 (by omega)).trans hS.2.1, fun i hi => ⟨(h _ (by omega)).trans (hS.2.2 i hi).1, (h _ (by omega)).trans (hS.2.2 i hi).2.1, (h _ (by omega)).trans (hS.2.2 i hi).2.2⟩⟩
theorem d_MS_cB {S : Nat → Int32} {n : Nat} {K F K' F' : Nat → Nat} {B B' : Nat → Int32} {lw : Int32} (h : ∀ i, i < n → K i = K' i ∧ F i = F' i ∧ B i = B' i) (hS : d_MS S n K F B lw) : d_MS S n K' F' B' lw :=
  ⟨hS.1, hS.2.1, fun i hi => ⟨(hS.2.2 i hi).1.trans (by rw [(h i hi).1]), (hS.2.2 i hi).2.1.trans (by rw [(h i hi).2.1]), (hS.2.2 i hi).2.2.trans (h i hi).2.2⟩⟩
/-- become -/
theorem x_become {a nx : Nat} {X : Nat → Option HO} {ad bd : Nat} {P K F P' K' F' : Nat → Nat} {n n' : Nat} {lw lw' : Int32} {B B' : Nat → Int32} (hd : ad + 2 < bd ∨ bd + 2 < ad) (ha : ∀ k, k ≤ 2 → ¬ d_ok a nx (ad + k)) (h' : d_LG a nx X ad P' K' F' n' lw' B') (h : d_LG a nx X bd P K F n lw B) :
    ∃ X' B'', f2_become (X, nx) ad bd = some (X', nx) ∧ (∀ i, i < 8 → B'' i = B i) ∧ d_LG a nx X' ad P K F n lw B'' ∧ ∀ q, q ≠ ad → q ≠ ad + 1 → q ≠ ad + 2 → X' q = X q := by
  obtain ⟨⟨⟨b1, PA, b2, b3⟩, b4, b5⟩, b6, b7⟩ := h
  obtain ⟨⟨⟨c1, PA', c2, c3⟩, c4, c5⟩, c6, c7⟩ := h'
  have np : ∀ i, i < 8 → P i ≠ ad ∧ P i ≠ ad + 1 ∧ P i ≠ ad + 2 := fun i hi => ⟨fun e => ha 0 (by omega) (by rw [Nat.add_zero, ← e]; exact b7 i hi), fun e => ha 1 (by omega) (by rw [← e]; exact b7 i hi), fun e => ha 2 (by omega) (by rw [← e]; exact b7 i hi)⟩
  let PAi : Nat → Nat → Option Nat := fun i j => if j < i then PA j else PA' j
  let Bi : Nat → Nat → Int32 := fun i j => if j < i then B j else B' j
  let XX : (Nat → Option Nat) → (Nat → Int32) → Nat → Option HO := fun PA B => va_up (va_up X (ad + 1) (some (.inr (.inr (false, 8, PA))))) (ad + 2) (d_A 8 B)
  have xx1 : ∀ PA B, XX PA B (ad + 1) = some (.inr (.inr (false, 8, PA))) := fun PA B => (va_up_ne _ _ (by omega)).trans (va_up_self _ _ _)
  have xx2 : ∀ PA B, XX PA B (ad + 2) = d_A 8 B := fun PA B => va_up_self _ _ _
  have xxp : ∀ PA B q, q ≠ ad + 1 → q ≠ ad + 2 → XX PA B q = X q := fun PA B q h1 h2 => (va_up_ne _ _ h2).trans (va_up_ne _ _ h1)
  have e0 : XX (PAi 0) (Bi 0) = X := by
    have p1 : PAi 0 = PA' := by funext j; show (if j < 0 then PA j else PA' j) = PA' j; rw [if_neg (by omega)]
    have p2 : Bi 0 = B' := by funext j; show (if j < 0 then B j else B' j) = B' j; rw [if_neg (by omega)]
    rw [p1, p2]
    funext q
    show va_up (va_up X (ad + 1) _) (ad + 2) _ q = X q
    by_cases z2 : q = ad + 2
    · rw [z2, va_up_self, c6]
    · rw [va_up_ne _ _ z2]
      by_cases z1 : q = ad + 1
      · rw [z1, va_up_self, c2]
      · rw [va_up_ne _ _ z1]
  have lp : iter (f2_become_L2 ad bd) FU (Int32.ofInt 0, (X, nx)) = some (XX (PAi 8) (Bi 8), nx) := by
    have := d_for (step := f2_become_L2 ad bd) (fun i => (Int32.ofNat i, ((XX (PAi i) (Bi i), nx) : HM))) (XX (PAi 8) (Bi 8), nx) 8 0 (by omega) (by omega) (by
      intro i _ hi
      have g1 : hfld (XX (PAi i) (Bi i), nx) [2] 0 ad = some (.ref (ad + 1)) := d_hfld (σ := (XX (PAi i) (Bi i), nx)) ((xxp _ _ ad (by omega) (by omega)).trans c1) rfl
      have g2 : hfld (XX (PAi i) (Bi i), nx) [2] 0 bd = some (.ref (bd + 1)) := d_hfld (σ := (XX (PAi i) (Bi i), nx)) ((xxp _ _ bd (by omega) (by omega)).trans b1) rfl
      have g3 : hrld (XX (PAi i) (Bi i), nx) (bd + 1) (Int32.ofNat i) = some (.ref (P i)) := by
        unfold hrld hra
        simp only [(xxp (PAi i) (Bi i) (bd + 1) (by omega) (by omega)).trans b2, d_inb hi (show 8 ≤ 1000 by omega), if_true, d_nn (show i < 2147483648 by omega), b3 i hi]
        rfl
      have g4 : hrst (XX (PAi i) (Bi i), nx) (ad + 1) (Int32.ofNat i) (.ref (P i)) = some (XX (PAi (i + 1)) (Bi i), nx) := by
        have hc : hcls (XX (PAi i) (Bi i), nx) (P i) = some (d_kc (K i)) := d_hcls (σ := (XX (PAi i) (Bi i), nx)) ((xxp _ _ _ (np i hi).2.1 (np i hi).2.2).trans (b4 i hi).1.1)
        have hs : (rS false).contains (d_kc (K i)) = true := d_kc_P (b4 i hi).1.2.1
        unfold hrst hra
        simp only [xx1, d_inb hi (show 8 ≤ 1000 by omega), if_true, d_nn (show i < 2147483648 by omega), hc, hs]
        have pe : va_up (PAi i) i (some (P i)) = PAi (i + 1) := by
          funext j
          by_cases z : j = i
          · rw [z, va_up_self]
            show _ = if i < i + 1 then PA i else PA' i
            rw [if_pos (by omega)]; exact (b3 i hi).symm
          · rw [va_up_ne _ _ z]
            show (if j < i then PA j else PA' j) = if j < i + 1 then PA j else PA' j
            by_cases z2 : j < i
            · rw [if_pos z2, if_pos (by omega)]
            · rw [if_neg z2, if_neg (by omega)]
        rw [pe]
        unfold hset
        congr 2
        funext q
        show va_up (va_up (va_up X (ad + 1) _) (ad + 2) _) (ad + 1) _ q = va_up (va_up X (ad + 1) _) (ad + 2) _ q
        unfold va_up
        by_cases z1 : q = ad + 1
        · have z2 : ¬ q = ad + 2 := by omega
          simp only [z1, if_true, if_neg (show ¬ ad + 1 = ad + 2 by omega)]
        · simp only [if_neg z1]
      have g5 : hfld (XX (PAi (i + 1)) (Bi i), nx) [2] 1 ad = some (.ref (ad + 2)) := d_hfld (σ := (XX (PAi (i + 1)) (Bi i), nx)) ((xxp _ _ ad (by omega) (by omega)).trans c1) rfl
      have g6 : hfld (XX (PAi (i + 1)) (Bi i), nx) [2] 1 bd = some (.ref (bd + 2)) := d_hfld (σ := (XX (PAi (i + 1)) (Bi i), nx)) ((xxp _ _ bd (by omega) (by omega)).trans b1) rfl
      have g7 : hald (XX (PAi (i + 1)) (Bi i), nx) (bd + 2) (Int32.ofNat i) = some (B i) := d_ald (σ := (XX (PAi (i + 1)) (Bi i), nx)) ((xxp _ _ (bd + 2) (by omega) (by omega)).trans b6) hi (by omega)
      have g8 : hast (XX (PAi (i + 1)) (Bi i), nx) (ad + 2) (Int32.ofNat i) (B i) = some (XX (PAi (i + 1)) (Bi (i + 1)), nx) := by
        rw [d_ast (σ := (XX (PAi (i + 1)) (Bi i), nx)) (xx2 _ _) hi (by omega)]
        have pe : upd (Bi i) i (B i) = Bi (i + 1) := by
          funext j
          unfold upd
          by_cases z : j = i
          · rw [if_pos z, z]
            show _ = if i < i + 1 then B i else B' i
            rw [if_pos (by omega)]
          · rw [if_neg z]
            show (if j < i then B j else B' j) = if j < i + 1 then B j else B' j
            by_cases z2 : j < i
            · rw [if_pos z2, if_pos (by omega)]
            · rw [if_neg z2, if_neg (by omega)]
        rw [pe]
        unfold hset
        congr 2
        exact d_up_up _ _ _ _
      unfold f2_become_L2
      simp only
      rw [show (Int8.ofInt 8).toInt32 = Int32.ofNat 8 by decide]
      simp only [d_lef hi (by omega), if_false, g1, g2, g3, g4, g5, g6, g7, g8, obd, orf, d_su]) (by
      unfold f2_become_L2
      simp only
      rw [show (Int8.ofInt 8).toInt32 = Int32.ofNat 8 by decide]
      simp only [d_let, if_true])
    rw [e0] at this
    exact this
  let X2 : Nat → Option HO := XX (PAi 8) (Bi 8)
  let X3 : Nat → Option HO := va_up X2 ad (some (.inl (2, [.ref (ad + 1), .ref (ad + 2), .int (Int32.ofNat n), .int lw'])))
  let X4 : Nat → Option HO := va_up X3 ad (some (.inl (2, [.ref (ad + 1), .ref (ad + 2), .int (Int32.ofNat n), .int lw])))
  have e2 : ∀ q, q ≠ ad + 1 → q ≠ ad + 2 → X2 q = X q := xxp _ _
  have e3 : ∀ q, q ≠ ad → X3 q = X2 q := fun q hq => va_up_ne _ _ hq
  have e4 : ∀ q, q ≠ ad → X4 q = X3 q := fun q hq => va_up_ne _ _ hq
  have g5 : hfi (X2, nx) [2] 2 bd = some (Int32.ofNat n) := d_hfi (σ := (X2, nx)) ((e2 bd (by omega) (by omega)).trans b1) rfl rfl
  have g6 : hput (X2, nx) [2] 2 ad (.int (Int32.ofNat n)) = some (X3, nx) := by
    unfold hput hobj
    simp only [(e2 ad (by omega) (by omega)).trans c1]
    rfl
  have g7 : hfi (X3, nx) [2] 3 bd = some lw := d_hfi (σ := (X3, nx)) ((e3 bd (by omega)).trans ((e2 bd (by omega) (by omega)).trans b1)) rfl rfl
  have g8 : hput (X3, nx) [2] 3 ad (.int lw) = some (X4, nx) := by
    unfold hput hobj
    simp only [show X3 ad = some (.inl (2, [.ref (ad + 1), .ref (ad + 2), .int (Int32.ofNat n), .int lw'])) from va_up_self _ _ _]
    rfl
  refine ⟨X4, Bi 8, ?_, ?_, ?_, ?_⟩
  · unfold f2_become
    have lp2 : iter (f2_become_L2 ad bd) FU (Int32.ofInt 0, (X, nx)) = some (X2, nx) := lp
    rw [lp2]
    simp only [obd, g5, g6, g7, g8]
  · intro i hi
    show (if i < 8 then B i else B' i) = B i
    rw [if_pos hi]
  · have u : ∀ q, q ≠ ad → q ≠ ad + 1 → q ≠ ad + 2 → X4 q = X q := fun q h0 h1 h2 => (e4 q h0).trans ((e3 q h0).trans (e2 q h1 h2))
    refine ⟨⟨⟨va_up_self _ _ _, PAi 8, (e4 _ (by omega)).trans ((e3 _ (by omega)).trans (xx1 _ _)), fun i hi => ?_⟩, fun i hi => ⟨⟨(u _ (np i hi).1 (np i hi).2.1 (np i hi).2.2).trans (b4 i hi).1.1, (b4 i hi).1.2⟩, (np i hi).2.2⟩, b5⟩, (e4 _ (by omega)).trans ((e3 _ (by omega)).trans (xx2 _ _)), b7⟩
    show (if i < 8 then PA i else PA' i) = some (P i)
    rw [if_pos hi, b3 i hi]
  · exact fun q h0 h1 h2 => (e4 q h0).trans ((e3 q h0).trans (e2 q h1 h2))
theorem m_lays {M : Nat → Option HO} {p0 p1 nx : Nat} {S T : Nat → Int32} (h0 : M p0 = d_A 26 S) (h1 : M p1 = d_A 26 T) (hp : p0 ≠ p1) : f11_lays (M, nx) p0 p1 = some (va_up M p1 (d_A 26 (fun j => if j < 26 then S j else T j)), nx) := by
  unfold f11_lays
  have hs : M = va_up M p1 (d_A 26 (fun j => if j < 0 then S j else T j)) := by
    funext q
    unfold va_up
    split
    · rename_i e; rw [e, h1]; congr 4
    · rfl
  have key : iter (f11_lays_L2 p0 p1) FU (Int32.ofNat 0, (va_up M p1 (d_A 26 (fun j => if j < 0 then S j else T j)), nx)) = some (va_up M p1 (d_A 26 (fun j => if j < 26 then S j else T j)), nx) := by
    refine d_for (fun i => (Int32.ofNat i, ((va_up M p1 (d_A 26 (fun j => if j < i then S j else T j)), nx) : HM))) _ 26 0 (by omega) (by omega) ?_ ?_
    · intro i _ hi
      unfold f11_lays_L2
      simp only
      rw [show (Int8.ofInt 26).toInt32 = Int32.ofNat 26 by decide]
      simp only [d_lef hi (by omega), if_false]
      rw [d_ald (σ := (va_up M p1 (d_A 26 (fun j => if j < i then S j else T j)), nx)) ((va_up_ne _ _ hp).trans h0) hi (by omega)]
      simp only [obd]
      rw [d_ast (σ := (va_up M p1 (d_A 26 (fun j => if j < i then S j else T j)), nx)) (va_up_self _ _ _) hi (by omega)]
      simp only [d_su]
      unfold hset
      simp only [d_up_up]
      congr 9
      funext j
      unfold upd
      by_cases e : j = i
      · subst e; simp
      · rw [if_neg e]
        show (if j < i then S j else T j) = _
        by_cases e2 : j < i
        · rw [if_pos e2, if_pos (by omega)]
        · rw [if_neg e2, if_neg (by omega)]
    · unfold f11_lays_L2
      simp only
      rw [show (Int8.ofInt 26).toInt32 = Int32.ofNat 26 by decide]
      simp only [d_let, if_true]
  rw [← hs] at key
  rw [show iter (f11_lays_L2 p0 p1) FU (Int32.ofInt 0, (M, nx)) = _ from key]
  rfl
