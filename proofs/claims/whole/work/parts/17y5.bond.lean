/-! ===== PURE: bonds ===== -/
theorem Bk_n0 {w : SV} {c a : Nat} (h : Bk w c a) : ¬ w 0 21 = 0 := by
  rw [h.1]
  intro e
  have := (nI_eq (a := c) (b := 0) (by have := h.2.2.2; omega) (by decide)).1 e
  have := h.2.2.1
  omega
theorem i2m (m : Nat) : (2 : Int32) * nI m = nI (2 * m) := by rw [lit_nI 2, pk_mul]
theorem i2m1 (m : Nat) : nI (2 * m) + (1 : Int32) = nI (2 * m + 1) := by rw [lit_nI 1, nI_add]
theorem i1 (m : Nat) : nI m + (1 : Int32) = nI (m + 1) := by rw [lit_nI 1, nI_add]
theorem J34_b {w : SV} {c a m : Nat} (h : Bk w c a) (h12 : w 0 12 = nI m) (hm : m < 5) (y : Int32 × SV) : ∃ w', (m_X6_readBond_J34 y w).bind tlR = some w' ∧ FrX w w' ∧ Bk w' c a := by
  obtain ⟨w1, e1, e2, e3⟩ := partHere_b (Bk_row (k := 8) (j := 2 * m) (x := y.1) h (by decide)) (0 : Int32)
  unfold m_X6_readBond_J34
  simp (disch := omega) only [lett_eq, up2_n (show (0 : Nat) ≠ 8 by decide), h12, i2m, i2m1, inB_nI, ck_true, nI_clamp]
  rw [e1, some_bind, some_bind]
  have hB := Bk_0 (j := 12) (x := up2 w1 8 (2 * m + 1) (nI 0) 0 12 + (1 : Int32)) (Bk_row (k := 8) (j := 2 * m + 1) (x := nI 0) e3 (by decide)) (by omega)
  rw [up2_n (show (0 : Nat) ≠ 8 by decide)] at hB
  rw [tail_b hB]
  exact ⟨_, rfl, (((FrX.row (by omega)).tr (FrX.h e2)).tr (FrX.row (by omega))).tr (FrX.up (by omega)), hB⟩
theorem J34_s {w : SV} {n i m V HP : Nat} {t : Nat → Nat} (hT : RT w n t) (hn : n ≤ 160) (hb : ∀ j, t j ≤ 127) (hin : i ≤ n) (hL : LK w n t i) (h12 : w 0 12 = nI m) (hm : m < 5) (h16 : w 0 16 = nI HP + (-1)) (hHP : HP ≤ 6) (w0 : SV) : ∃ y w2, m_X6_readBond_J34 (nI V, w0) w = some (up2 (up2 w2 8 (2 * m + 1) y) 0 12 (nI (m + 1))) ∧ FrH (up2 w 8 (2 * m) (nI V)) w2 ∧ w2 0 17 = w 0 17 ∧ ((nfC n t i 0 5 0 ≠ 0 ∧ y = nI 0 ∧ Bk w2 (nfC n t i 0 5 0) (skA n t i)) ∨ (nfC n t i 0 5 0 = 0 ∧ y = nI (tkV n t i) ∧ LK w2 n t (tkE n t i) ∧ w2 0 16 = nI (mxh HP (tkV n t i)) + (-1))) := by
  obtain ⟨y, w2, o1, o2, o7, o3⟩ := partHere_s (w := up2 w 8 (2 * m) (nI V)) (so := 0) (hT.x (FrX.row (by omega))) hn hb hin (LK_row hL (by decide)) (by omega) (by rw [up2_n (by decide)]; exact h16) hHP
  refine ⟨y, w2, ?_, o2, by rw [o7, up2_n (by decide)], o3⟩
  unfold m_X6_readBond_J34
  simp (disch := omega) only [lett_eq, up2_n (show (0 : Nat) ≠ 8 by decide), h12, i2m, i2m1, inB_nI, ck_true, nI_clamp]
  rw [show m_X6_partHere (up2 w 8 (2 * m) (nI V)) (0 : Int32) = some (y, w2) from o1, some_bind]
  dsimp only
  rw [o2.2 12 (by decide) (by decide) (by omega), up2_n (by decide), h12, i1]
theorem ln_bond {v u w : SV} {n i : Nat} {t : Nat → Nat} {D : AS} {HP HS wt : Nat} {pt : Bool} (hn : n ≤ 160) (hb : ∀ j, t j ≤ 127) (hT : RT w n t) (hD : D 0 2 < 5) (h : Sy v u w n t i D HP HS wt pt) : ∃ b v' u' w', m_X0_readBond v u = some (bI b, v', u') ∧ rgo w (nI 6) = some w' ∧ FrX w w' ∧ LnR n t i v' u' w' b := by
  obtain ⟨hC, hH, hR, hW, hwt, hL, hS⟩ := h
  have hin := hC.2.2.2.1
  have hV := tkV_lt n t i hb
  have hWn := hW.1
  unfold WDn at hWn
  have hu2 : u 0 2 = nI (D 0 2) := hR.n (by decide)
  obtain ⟨v2, c1, c6, c2⟩ := readNumber_s u (lo := 0) (hi := 5) hC hn hb (by omega) (by omega)
  have hH2 := HC_C hH c1
  have hrm : ∀ w : SV, m_X6_readMore w (nI 6) = m_X6_readBond w := fun w => by
    unfold m_X6_readMore
    rw [if_neg (by decide), if_neg (by decide), if_pos (by decide)]
    cases m_X6_readBond w <;> rfl
  unfold m_X0_readBond
  rw [hu2, if_pos (show nI (D 0 2) < (5 : Int32) from (cast_lt (b := 5) (by omega) (by decide)).mpr hD)]
  simp (disch := omega) only [inB_nI, ck_true, nI_clamp, lett_eq]
  rw [show m_X0_readNumber v u (0 : Int32) (5 : Int32) = m_X0_readNumber v u (nI 0) (nI 5) from rfl]
  by_cases h4 : tkK n t i = 4
  · obtain ⟨q1, q2⟩ := rgo_4 hL h4 (nI 6)
    rcases c2 with ⟨e1, e2, e3⟩ | ⟨e1, -⟩
    · rw [nfC_4 h4] at e3
      rw [e2, some_bind]
      exact ⟨false, v2, u, w, rfl, q1, FrX.rf, .inl ⟨rfl, _, _, e3, q2, skA_le t (by assumption)⟩⟩
    · rw [nfC_4 h4] at e1; omega
  · obtain ⟨s1, s2⟩ := hS h4
    rw [rgo_n hL h4, hrm]
    unfold m_X6_readBond
    obtain ⟨y, w1, o1, o2, o7, o3⟩ := partHere_s (so := 0) hT hn hb hin hL (by omega) s2.2.2.1 (by omega)
    rw [show m_X6_partHere w (0 : Int32) = some (y, w1) from o1, some_bind]
    dsimp only
    have e12 : w1 0 12 = nI (D 0 2) := by rw [o2.2 12 (by decide) (by decide) (by omega)]; exact s1.1.2.2.1
    rcases c2 with ⟨e1, e2, e3⟩ | ⟨e1, e2, e3, e4⟩
    · rw [e2, some_bind]
      rcases o3 with ⟨k1, rfl, k3⟩ | ⟨k1, -⟩
      · rw [if_neg (Bk_n0 k3)]
        obtain ⟨w', r1, r2, r3⟩ := J34_b k3 e12 hD (nI 0, w1)
        exact ⟨false, v2, u, w', rfl, r1, (FrX.h o2).tr r2, .inl ⟨rfl, _, _, e3, r3, skA_le t (by assumption)⟩⟩
      · exact absurd k1 e1
    · rcases o3 with ⟨k1, -⟩ | ⟨-, rfl, k3, k4⟩
      · exact absurd e1 k1
      obtain ⟨z1, z2, z3, -⟩ := nfC_0 e1
      have hmx := mxh_le (H := HP) (V := tkV n t i) (m := 6) (by omega) (by omega)
      have hgt := tkE_gt hin h4 (by omega)
      have hin2 := tkE_le t hin
      have hV2 := tkV_lt n t (tkE n t i) hb
      rw [e2, some_bind]
      dsimp +instances only
      rw [if_neg (show ¬ (1 : Int32) = 0 from by decide), notePart_s u hH2.2.2.1 e4 (by omega) (by omega), some_bind]
      dsimp +instances only
      generalize hv3 : up2 v2 0 11 (hiC (mxh HP (tkV n t i))) = v3
      have hC3 : CT v3 n t (tkE n t i) := by rw [← hv3]; exact CT_up e3 (by omega)
      have hH3 : HC v3 (mxh HP (tkV n t i)) HS wt pt := by
        rw [← hv3]
        exact ⟨by rw [up2_si (by decide)]; exact hH2.1, by rw [up2_si (by decide)]; exact hH2.2.1, by rw [up2_ss], by rw [up2_si (by decide)]; exact hH2.2.2.2⟩
      generalize hu1 : up2 u 14 (D 0 2) (nI (tkV n t i)) = u1
      have hR1 : RepC u1 (aset D 14 (D 0 2) (tkV n t i)) := by rw [← hu1]; exact hR.set (by decide)
      have hu1' : u1 14 (D 0 2) = nI (tkV n t i) := by rw [← hu1, up2_ss]
      obtain ⟨v4, d1, d6, d2⟩ := readNumber_s u1 (lo := 0) (hi := 5) hC3 hn hb (by omega) (by omega)
      have hH4 := HC_C hH3 d1
      rw [show m_X0_readNumber v3 u1 (0 : Int32) (5 : Int32) = m_X0_readNumber v3 u1 (nI 0) (nI 5) from rfl]
      by_cases k2 : tkK n t (tkE n t i) = 4
      · rcases d2 with ⟨f1, f2, f3⟩ | ⟨f1, -⟩
        · rcases k3 with ⟨-, l21, l22⟩ | ⟨l4, -⟩
          · have hB1 : Bk w1 1 (skA n t (tkE n t i)) := ⟨l21, l22, by omega, by omega⟩
            rw [nfC_4 k2] at f3
            rw [f2, some_bind, if_neg (Bk_n0 hB1)]
            obtain ⟨w', r1, r2, r3⟩ := J34_b hB1 e12 hD (nI (tkV n t i), w1)
            exact ⟨false, v4, u1, w', rfl, r1, (FrX.h o2).tr r2, .inl ⟨rfl, _, _, f3, r3, skA_le t (by assumption)⟩⟩
          · exact absurd k2 l4
        · rw [nfC_4 k2] at f1; omega
      · have k3' := k3
        rcases k3 with ⟨l4, -⟩ | ⟨-, l21, l24, l25, l23, l26⟩
        · exact absurd l4 k2
        by_cases hq : tkK n t (tkE n t i) = 2 ∧ tkV n t (tkE n t i) = tkV n t i
        · have hnf : nfC n t (tkE n t i) 0 5 0 = 0 := by
            unfold nfC
            rw [if_neg k2, if_neg (fun h => h hq.1), if_neg (by omega), Nat.zero_testBit, if_neg (by simp)]
          rw [if_pos (show w1 0 21 = 0 from l21), if_pos (show w1 0 25 = 2 from by rw [l25, hq.1]; rfl), if_pos (show w1 0 26 = nI (tkV n t i) from by rw [l26 hq.1, hq.2]), fails_0 l21 l24, some_bind]
          have hB1 := Bk_up w1 3 (skA n t (tkE n t i)) (by omega) (by omega)
          obtain ⟨w', r1, r2, r3⟩ := J34_b hB1 (m := D 0 2) (by rw [up2_si (by decide), up2_si (by decide)]; exact e12) hD (nI (tkV n t i), w1)
          rcases d2 with ⟨f1, -⟩ | ⟨f1, f2, f3, f4⟩
          · exact absurd hnf f1
          · rw [f2, some_bind]
            dsimp +instances only
            rw [if_neg (show ¬ (1 : Int32) = 0 from by decide), notePart_s u1 hH4.2.2.1 f4 (by omega) (by omega), some_bind]
            dsimp +instances only
            rw [up2_ss, up2_n (by decide), hu1', hq.2, if_pos rfl, up2_si (by decide), d6, refuse_s, some_bind]
            exact ⟨false, _, _, w', rfl, r1, ((FrX.h o2).tr (FrX.k (FrK_up _ _ _))).tr r2, .inl ⟨rfl, _, _, Fc_up _ 3 _, r3, skA_le t (by assumption)⟩⟩
        · have hrb : (if w1 0 21 = 0 then if w1 0 25 = (2 : Int32) then if w1 0 26 = nI (tkV n t i) then (m_X6_fails w1 (3 : Int32)).bind (fun y31 => m_X6_readBond_J34 (nI (tkV n t i), w1) y31) else m_X6_readBond_J34 (nI (tkV n t i), w1) w1 else m_X6_readBond_J34 (nI (tkV n t i), w1) w1 else m_X6_readBond_J34 (nI (tkV n t i), w1) w1) = m_X6_readBond_J34 (nI (tkV n t i), w1) w1 := by
            rw [if_pos (show w1 0 21 = 0 from l21)]
            by_cases kk : tkK n t (tkE n t i) = 2
            · have hv : ¬ w1 0 26 = nI (tkV n t i) := by
                rw [l26 kk]
                intro e
                exact hq ⟨kk, (nI_eq (by omega) (by omega)).1 e⟩
              rw [if_neg hv]
              split <;> rfl
            · rw [if_neg]
              rw [l25]
              intro e
              have := tkK_lt n t (tkE n t i)
              exact kk ((nI_eq (b := 2) (by omega) (by omega)).1 e)
          rw [hrb]
          have h16 : w1 0 17 = nI HS + (-1) := by rw [o7]; exact s2.2.2.2
          obtain ⟨y2, w2, p1, p2, p7, p3⟩ := J34_s (V := tkV n t i) (hT.x (FrX.h o2)) hn hb hin2 k3' e12 hD k4 hmx w1
          rw [p1, some_bind]
          have hF2 : FrX w (up2 (up2 w2 8 (2 * D 0 2 + 1) y2) 0 12 (nI (D 0 2 + 1))) := ((((FrX.h o2).tr (FrX.row (by omega))).tr (FrX.h p2)).tr (FrX.row (by omega))).tr (FrX.up (by omega))
          rcases d2 with ⟨f1, f2, f3⟩ | ⟨f1, f2, f3, f4⟩
          · rcases p3 with ⟨q1, rfl, q3⟩ | ⟨q1, -⟩
            · rw [f2, some_bind, tail_b (Bk_0 (Bk_row q3 (by decide)) (by omega))]
              exact ⟨false, v4, u1, _, rfl, rfl, hF2, .inl ⟨rfl, _, _, f3, Bk_0 (Bk_row q3 (by decide)) (by omega), skA_le t (by assumption)⟩⟩
            · exact absurd q1 f1
          · rcases p3 with ⟨q1, -⟩ | ⟨-, rfl, q3, q4⟩
            · exact absurd f1 q1
            obtain ⟨g1, g2, g3, -⟩ := nfC_0 f1
            have hne : ¬ tkV n t (tkE n t i) = tkV n t i := fun e => hq ⟨g1, e⟩
            rw [f2, some_bind]
            dsimp +instances only
            rw [if_neg (show ¬ (1 : Int32) = 0 from by decide), notePart_s u1 hH4.2.2.1 f4 (by omega) (by omega), some_bind]
            dsimp +instances only
            rw [up2_ss, up2_n (show 14 ≠ 15 by decide), hu1', if_neg (fun e => hne ((nI_eq (by omega) (by omega)).1 e)), up2_n (show 0 ≠ 15 by decide), ← hu1, up2_n (show 0 ≠ 14 by decide), hu2, i1]
            have hmx2 := mxh_le (H := mxh HP (tkV n t i)) (V := tkV n t (tkE n t i)) (m := 6) hmx (by omega)
            have hl1 := mxh_lt (H := HP) (V := tkV n t i)
            have hl2 := mxh_lt (H := mxh HP (tkV n t i)) (V := tkV n t (tkE n t i))
            have hS5 : Sy (up2 v4 0 11 (hiC (mxh (mxh HP (tkV n t i)) (tkV n t (tkE n t i))))) (up2 (up2 (up2 u 14 (D 0 2) (nI (tkV n t i))) 15 (D 0 2) (nI (tkV n t (tkE n t i)))) 0 2 (nI (D 0 2 + 1))) (up2 (up2 w2 8 (2 * D 0 2 + 1) (nI (tkV n t (tkE n t i)))) 0 12 (nI (D 0 2 + 1))) n t (tkE n t (tkE n t i)) (aset (aset (aset D 14 (D 0 2) (tkV n t i)) 15 (D 0 2) (tkV n t (tkE n t i))) 0 2 (D 0 2 + 1)) (mxh (mxh HP (tkV n t i)) (tkV n t (tkE n t i))) HS wt pt := by
              generalize hD' : aset (aset (aset D 14 (D 0 2) (tkV n t i)) 15 (D 0 2) (tkV n t (tkE n t i))) 0 2 (D 0 2 + 1) = D'
              have a0 : ∀ j, j ≠ 2 → D' 0 j = D 0 j := fun j hj => by rw [← hD', aset_i hj, aset_r (by decide), aset_r (by decide)]
              have a02 : D' 0 2 = D 0 2 + 1 := by rw [← hD', aset_s]
              have ar : ∀ r, r ≠ 0 → r ≠ 14 → r ≠ 15 → D' r = D r := fun r r0 r14 r15 => by rw [← hD', aset_r r0, aset_r r15, aset_r r14]
              have a14 : ∀ j, D' 14 j = if j = D 0 2 then tkV n t i else D 14 j := fun j => by
                rw [← hD', aset_r (by decide), aset_r (by decide)]
                by_cases hj : j = D 0 2
                · rw [if_pos hj, hj, aset_s]
                · rw [if_neg hj, aset_i hj]
              have a15 : ∀ j, D' 15 j = if j = D 0 2 then tkV n t (tkE n t i) else D 15 j := fun j => by
                rw [← hD', aset_r (by decide)]
                by_cases hj : j = D 0 2
                · rw [if_pos hj, hj, aset_s]
                · rw [if_neg hj, aset_i hj, aset_r (by decide)]
              refine ⟨CT_up f3 (by omega), ⟨by rw [up2_si (by decide)]; exact hH4.1, by rw [up2_si (by decide)]; exact hH4.2.1, by rw [up2_ss], by rw [up2_si (by decide)]; exact hH4.2.2.2⟩, ?_, ?_, hwt, LK_up (LK_row q3 (by decide)) (by omega), fun _ => ⟨?_, ?_⟩⟩
              · rw [← hD']
                exact ((hR.set (by decide)).set (by decide)).set0 (by decide)
              · obtain ⟨a1, a2, a3, a4, a5⟩ := WFd_m hW (show HP ≤ mxh (mxh HP (tkV n t i)) (tkV n t (tkE n t i)) by omega) (Nat.le_refl HS) hmx2 (by omega)
                unfold WFd WDn WDp WDs WDb WDf
                rw [a0 0 (by decide), a0 1 (by decide), a02, a0 3 (by decide), a0 4 (by decide), a0 5 (by decide), ar 6 (by decide) (by decide) (by decide), ar 7 (by decide) (by decide) (by decide), ar 8 (by decide) (by decide) (by decide), ar 9 (by decide) (by decide) (by decide), ar 10 (by decide) (by decide) (by decide), ar 11 (by decide) (by decide) (by decide), ar 12 (by decide) (by decide) (by decide), ar 13 (by decide) (by decide) (by decide), ar 16 (by decide) (by decide) (by decide)]
                unfold WDn at a1
                refine ⟨by omega, a2, a3, fun b hb' => ?_, a5⟩
                rw [a14, a15]
                by_cases hbd : b = D 0 2
                · rw [if_pos hbd, if_pos hbd]
                  omega
                · rw [if_neg hbd, if_neg hbd]
                  exact a4 b (by omega)
              · have e7 : w2 7 = w 7 := by rw [p2.1 7 (by decide), up2_n (by decide), o2.1 7 (by decide)]
                have e9 : w2 9 = w 9 := by rw [p2.1 9 (by decide), up2_n (by decide), o2.1 9 (by decide)]
                have e8 : ∀ j, j ≠ 2 * D 0 2 → w2 8 j = w 8 j := fun j hj => by rw [p2.1 8 (by decide), up2_si hj, o2.1 8 (by decide)]
                have e80 : w2 8 (2 * D 0 2) = nI (tkV n t i) := by rw [p2.1 8 (by decide), up2_ss]
                have e0 : ∀ j, 10 ≤ j → j ≤ 13 → w2 0 j = w 0 j := fun j _ _ => by rw [p2.2 j (by omega) (by omega) (by omega), up2_n (by decide), o2.2 j (by omega) (by omega) (by omega)]
                unfold RD RDn RDp RDs RDz RDb RDf at s1 ⊢
                rw [a0 0 (by decide), a0 1 (by decide), a02, a0 3 (by decide), ar 6 (by decide) (by decide) (by decide), ar 7 (by decide) (by decide) (by decide), ar 8 (by decide) (by decide) (by decide), ar 9 (by decide) (by decide) (by decide), ar 10 (by decide) (by decide) (by decide), ar 11 (by decide) (by decide) (by decide), ar 12 (by decide) (by decide) (by decide), ar 16 (by decide) (by decide) (by decide)]
                rw [up2_n (show 7 ≠ 0 by decide), up2_n (show 7 ≠ 8 by decide), up2_n (show 9 ≠ 0 by decide), up2_n (show 9 ≠ 8 by decide), up2_n (show 8 ≠ 0 by decide), e7, e9, up2_ss, up2_si (show 10 ≠ 12 by decide), up2_si (show 11 ≠ 12 by decide), up2_si (show 13 ≠ 12 by decide), up2_n (show 0 ≠ 8 by decide), e0 10 (by omega) (by omega), e0 11 (by omega) (by omega), e0 13 (by omega) (by omega)]
                refine ⟨⟨s1.1.1, s1.1.2.1, rfl, s1.1.2.2.2⟩, s1.2.1, s1.2.2.1, s1.2.2.2.1, fun b hb' => ?_, s1.2.2.2.2.2⟩
                rw [a14, a15]
                by_cases hbd : b = D 0 2
                · rw [if_pos hbd, if_pos hbd, hbd, up2_ss, up2_si (by omega), e80]
                  exact ⟨rfl, rfl⟩
                · rw [if_neg hbd, if_neg hbd, up2_si (by omega), up2_si (by omega), e8 _ (by omega), e8 _ (by omega)]
                  exact s1.2.2.2.2.1 b (by omega)
              · have e0 : ∀ j, j ≠ 16 → j ≠ 17 → j ≠ 12 → j < 21 → up2 (up2 w2 8 (2 * D 0 2 + 1) (nI (tkV n t (tkE n t i)))) 0 12 (nI (D 0 2 + 1)) 0 j = w 0 j := fun j j6 j7 j2 hj => by rw [up2_si j2, up2_n (by decide), p2.2 j j6 j7 (by omega), up2_n (by decide), o2.2 j j6 j7 (by omega)]
                exact ⟨by rw [e0 14 (by decide) (by decide) (by decide) (by decide)]; exact s2.1, by rw [e0 15 (by decide) (by decide) (by decide) (by decide)]; exact s2.2.1, by rw [up2_si (by decide), up2_n (by decide)]; exact q4, by rw [up2_si (by decide), up2_n (by decide), p7]; exact h16⟩
            obtain ⟨b, v', w', r1, r2, r3, r4⟩ := sgn_ln hn hb (hT.x hF2) hS5
            rw [r1, some_bind]
            dsimp only
            rw [nz_bI, ck_true]
            refine ⟨b, v', _, w', rfl, r2, hF2.tr r3, LnR_t r4 ?_⟩
            have := tkE_gt (t := t) (n := n) (i := tkE n t i) hin2 (by omega) (by omega)
            omega
