/-! ===== PURE: paintings in a text ===== -/
theorem ixS {V k : Nat} (hV : V < 2 ^ 31) (hk : k < 2 ^ 31) : (ix (nI V) k).isSome = decide (V < k) := by
  by_cases h : V < k
  · rw [ix_nI h hk, decide_eq_true h]
    rfl
  · rw [decide_eq_false h]
    unfold ix
    rw [nI_toInt hV, if_neg (by omega)]
    rfl
theorem WFd_b {D : AS} {HP HS : Nat} (h : WFd D HP HS) : WFb D := by
  obtain ⟨a1, a2, a3, a4, a5⟩ := h
  unfold WDn at a1
  refine ⟨by omega, fun i hi => (a2 i hi).1, fun i hi => (a2 i hi).2.1, fun s hs => ?_, a5⟩
  have := a3 s hs
  exact ⟨this.1, this.2.1, this.2.2.1, this.2.2.2.1, by rw [this.2.2.2.2]; omega⟩
theorem J51_b {w : SV} {c a : Nat} (h : Bk w c a) : ∃ w', (m_X6_readPaint_J51 w).bind tlR = some w' ∧ FrX w w' ∧ Bk w' c a := by
  obtain ⟨w1, e1, e2, e3⟩ := partHere_b h (0 : Int32)
  obtain ⟨w2, f1, f2, f3⟩ := sitterHere_b e3 (0 : Int32)
  unfold m_X6_readPaint_J51
  rw [e1, some_bind, f1, some_bind]
  dsimp only
  rw [if_neg (Bk_n0 f3), some_bind, tail_b f3]
  exact ⟨w2, rfl, (FrX.h e2).tr (FrX.h f2), f3⟩
theorem ln_paint {v u w : SV} {n i : Nat} {t : Nat → Nat} {D : AS} {HP HS wt : Nat} {pt : Bool} (hn : n ≤ 160) (hb : ∀ j, t j ≤ 127) (hT : RT w n t) (h : Sy v u w n t i D HP HS wt pt) : ∃ b v' u' w', m_X0_readPaint v u = some (bI b, v', u') ∧ rgo w (nI 8) = some w' ∧ FrX w w' ∧ LnR n t i v' u' w' b := by
  obtain ⟨hC, hH, hR, hW, hwt, hL, hS⟩ := h
  have hin := hC.2.2.2.1
  have hV := tkV_lt n t i hb
  have hWn := hW.1
  have hWp := hW.2.1
  unfold WDn at hWn
  obtain ⟨v2, c1, c6, c2⟩ := readNumber_s u (lo := 0) (hi := 5) hC hn hb (by omega) (by omega)
  have hH2 := HC_C hH c1
  have hrm : ∀ w : SV, m_X6_readMore w (nI 8) = m_X6_readPaint w := fun w => by
    unfold m_X6_readMore
    rw [if_neg (by decide), if_neg (by decide), if_neg (by decide), if_neg (by decide), if_pos (by decide)]
    cases m_X6_readPaint w <;> rfl
  unfold m_X0_readPaint
  rw [show m_X0_readNumber v u (0 : Int32) (5 : Int32) = m_X0_readNumber v u (nI 0) (nI 5) from rfl]
  by_cases h4 : tkK n t i = 4
  · obtain ⟨q1, q2⟩ := rgo_4 hL h4 (nI 8)
    rcases c2 with ⟨e1, e2, e3⟩ | ⟨e1, -⟩
    · rw [nfC_4 h4] at e3
      rw [e2, some_bind]
      exact ⟨false, v2, u, w, rfl, q1, FrX.rf, .inl ⟨rfl, _, _, e3, q2, skA_le t (by assumption)⟩⟩
    · rw [nfC_4 h4] at e1; omega
  · obtain ⟨s1, s2⟩ := hS h4
    have hL' := hL
    rcases hL' with ⟨k4, -⟩ | ⟨-, l21, l24, l25, l23, l26⟩
    · exact absurd k4 h4
    rw [rgo_n hL h4, hrm]
    unfold m_X6_readPaint
    rw [if_pos (show w 0 21 = 0 from l21)]
    by_cases hq : tkK n t i = 2 ∧ tkV n t i < 6 ∧ D 7 (tkV n t i) = 4
    · -- the part is full
      rw [if_pos (show w 0 25 = 2 from by rw [l25, hq.1]; rfl), l26 hq.1, in_s (k := 6) (by decide) (by decide), some_bind, ixS (by omega) (by decide), decide_eq_true hq.2.1]
      rw [if_neg (show ¬ bI true = 0 by decide), lit_nI 6, nI_add, inB_nI (by omega) (by decide), ck_true, nI_clamp (by omega), (s1.2.1 _ hq.2.1).2.1, hq.2.2, if_pos (show nI 4 = (4 : Int32) from rfl), fails_0 l21 l24, some_bind]
      have hnf : nfC n t i 0 5 0 = 0 := by
        unfold nfC
        rw [if_neg h4, if_neg (fun h => h hq.1), if_neg (by omega), Nat.zero_testBit, if_neg (by simp)]
      obtain ⟨w', r1, r2, r3⟩ := J51_b (Bk_up w 5 (skA n t i) (by omega) (by omega))
      rcases c2 with ⟨e1, -⟩ | ⟨e1, e2, e3, e4⟩
      · exact absurd hnf e1
      · rw [e2, some_bind]
        dsimp +instances only
        rw [if_neg (show ¬ (1 : Int32) = 0 from by decide), notePart_s u hH2.2.2.1 e4 (by omega) (by omega), some_bind]
        dsimp +instances only
        rw [inB_nI hq.2.1 (by decide), ck_true, nI_clamp (by omega), hR.r7 _ hq.2.1, hq.2.2, if_neg (show ¬ nI 4 < (4 : Int32) by decide), up2_si (by decide), c6, refuse_s, some_bind]
        exact ⟨false, _, u, w', rfl, r1, (FrX.k (FrK_up _ _ _)).tr r2, .inl ⟨rfl, _, _, Fc_up _ 5 _, r3, skA_le t (by assumption)⟩⟩
    · have hrb : (if w 0 25 = (2 : Int32) then (m_X6_in ((w 0 26).toInt64) (0 : Int64) (5 : Int64)).bind (fun y24 => (if y24 = 0 then m_X6_readPaint_J51 w else ck (inB ((6 : Int32) + (w 0 26)) 63) ((if (w 7 ((((6 : Int32) + (w 0 26))).toNatClampNeg)) = (4 : Int32) then (m_X6_fails w (5 : Int32)).bind (fun y48 => m_X6_readPaint_J51 y48) else m_X6_readPaint_J51 w)))) else m_X6_readPaint_J51 w) = m_X6_readPaint_J51 w := by
        by_cases kk : tkK n t i = 2
        · rw [if_pos (show w 0 25 = 2 from by rw [l25, kk]; rfl), l26 kk, in_s (k := 6) (by decide) (by decide), some_bind, ixS (by omega) (by decide)]
          by_cases hv : tkV n t i < 6
          · rw [decide_eq_true hv, if_neg (show ¬ bI true = 0 by decide), lit_nI 6, nI_add, inB_nI (by omega) (by decide), ck_true, nI_clamp (by omega), (s1.2.1 _ hv).2.1, if_neg]
            intro e
            have := (hWp _ hv).2.1
            exact hq ⟨kk, hv, (nI_eq (b := 4) (by omega) (by omega)).1 e⟩
          · rw [decide_eq_false hv, if_pos (show bI false = 0 by decide)]
        · rw [if_neg]
          rw [l25]
          intro e
          have := tkK_lt n t i
          exact kk ((nI_eq (b := 2) (by omega) (by omega)).1 e)
      rw [hrb]
      unfold m_X6_readPaint_J51
      obtain ⟨y, w1, o1, o2, o7, o3⟩ := partHere_s (so := 0) hT hn hb hin hL (by omega) s2.2.2.1 (by omega)
      rw [show m_X6_partHere w (0 : Int32) = some (y, w1) from o1, some_bind]
      dsimp only
      rcases c2 with ⟨e1, e2, e3⟩ | ⟨e1, e2, e3, e4⟩
      · rcases o3 with ⟨k1, rfl, k3⟩ | ⟨k1, -⟩
        · obtain ⟨w2, f1, f2, f3⟩ := sitterHere_b k3 (0 : Int32)
          rw [e2, some_bind, f1, some_bind]
          dsimp only
          rw [if_neg (Bk_n0 f3), some_bind, tail_b f3]
          exact ⟨false, v2, u, w2, rfl, rfl, (FrX.h o2).tr (FrX.h f2), .inl ⟨rfl, _, _, e3, f3, skA_le t (by assumption)⟩⟩
        · exact absurd k1 e1
      · rcases o3 with ⟨k1, -⟩ | ⟨-, rfl, k3, k4⟩
        · exact absurd e1 k1
        obtain ⟨z1, z2, z3, -⟩ := nfC_0 e1
        have hmx := mxh_le (H := HP) (V := tkV n t i) (m := 6) (by omega) (by omega)
        have hgt := tkE_gt hin h4 (by omega)
        have hin2 := tkE_le t hin
        have hV2 := tkV_lt n t (tkE n t i) hb
        have h74 : D 7 (tkV n t i) < 4 := by
          have := (hWp _ (show tkV n t i < 6 by omega)).2.1
          rcases Nat.lt_or_ge (D 7 (tkV n t i)) 4 with h | h
          · exact h
          · exact absurd ⟨z1, by omega, by omega⟩ hq
        rw [e2, some_bind]
        dsimp +instances only
        rw [if_neg (show ¬ (1 : Int32) = 0 from by decide), notePart_s u hH2.2.2.1 e4 (by omega) (by omega), some_bind]
        dsimp +instances only
        rw [inB_nI (show tkV n t i < 6 by omega) (by decide), ck_true, nI_clamp (by omega), hR.r7 _ (by omega), if_pos (show nI (D 7 (tkV n t i)) < (4 : Int32) from (cast_lt (b := 4) (by omega) (by decide)).mpr h74)]
        generalize hv3 : up2 v2 0 11 (hiC (mxh HP (tkV n t i))) = v3
        have hC3 : CT v3 n t (tkE n t i) := by rw [← hv3]; exact CT_up e3 (by omega)
        have hH3 : HC v3 (mxh HP (tkV n t i)) HS wt pt := by
          rw [← hv3]
          exact ⟨by rw [up2_si (by decide)]; exact hH2.1, by rw [up2_si (by decide)]; exact hH2.2.1, by rw [up2_ss], by rw [up2_si (by decide)]; exact hH2.2.2.2⟩
        obtain ⟨v4, d1, d6, d2⟩ := readNumber_s u (lo := 0) (hi := 4) hC3 hn hb (by omega) (by omega)
        have hH4 := HC_C hH3 d1
        rw [show m_X0_readNumber v3 u (0 : Int32) (4 : Int32) = m_X0_readNumber v3 u (nI 0) (nI 4) from rfl]
        obtain ⟨y2, w2, p1, p2, p7, p3⟩ := sitterHere_s (so := 0) (HS := HS) (hT.x (FrX.h o2)) hn hb hin2 k3 (by omega) (by rw [o7]; exact s2.2.2.2) (by omega)
        rw [show m_X6_sitterHere w1 (0 : Int32) = some (y2, w2) from p1, some_bind]
        dsimp only
        have hF2 : FrX w w2 := (FrX.h o2).tr (FrX.h p2)
        rcases d2 with ⟨f1, f2, f3⟩ | ⟨f1, f2, f3, f4⟩
        · rcases p3 with ⟨q1, rfl, q3⟩ | ⟨q1, -⟩
          · rw [f2, some_bind, if_neg (Bk_n0 q3), some_bind, tail_b q3]
            exact ⟨false, v4, u, _, rfl, rfl, hF2, .inl ⟨rfl, _, _, f3, q3, skA_le t (by assumption)⟩⟩
          · exact absurd q1 f1
        · rcases p3 with ⟨q1, -⟩ | ⟨-, rfl, q3, q4⟩
          · exact absurd f1 q1
          obtain ⟨g1, g2, g3, -⟩ := nfC_0 f1
          have hmy := mxh_le (H := HS) (V := tkV n t (tkE n t i)) (m := 5) (by omega) (by omega)
          have hl1 := mxh_lt (H := HP) (V := tkV n t i)
          have hl2 := mxh_lt (H := HS) (V := tkV n t (tkE n t i))
          rw [f2, some_bind]
          dsimp +instances only
          rw [if_neg (show ¬ (1 : Int32) = 0 from by decide), f4, hH4.2.2.2, hiC_mx (by omega) (by omega), lett_eq, up2_si (show 8 ≠ 12 by decide), f4]
          obtain ⟨u1, x1, x2⟩ := cover_s hR (WFd_b hW) (p := tkV n t i) (s := tkV n t (tkE n t i)) (by omega)
          rw [x1, some_bind]
          have hp6 : tkV n t i < 6 := by omega
          have e7 : w2 7 = w 7 := by rw [p2.1 7 (by decide), o2.1 7 (by decide)]
          have e0 : ∀ j, j ≠ 16 → j ≠ 17 → j < 21 → w2 0 j = w 0 j := fun j j6 j7 hj => by rw [p2.2 j j6 j7 (by omega), o2.2 j j6 j7 (by omega)]
          have hw5 : ∃ w5, (if w2 0 21 = 0 then ck (inB ((6 : Int32) + nI (tkV n t i)) 63) (ck (inB (((12 : Int32) + ((4 : Int32) * nI (tkV n t i))) + (w2 7 ((((6 : Int32) + nI (tkV n t i))).toNatClampNeg))) 63) (lett (up2 w2 7 (((((12 : Int32) + ((4 : Int32) * nI (tkV n t i))) + (w2 7 ((((6 : Int32) + nI (tkV n t i))).toNatClampNeg)))).toNatClampNeg) (nI (tkV n t (tkE n t i)))) (fun v9_ => ck (inB ((6 : Int32) + nI (tkV n t i)) 63) (ck (inB ((6 : Int32) + nI (tkV n t i)) 63) (lett (up2 v9_ 7 ((((6 : Int32) + nI (tkV n t i))).toNatClampNeg) ((v9_ 7 ((((6 : Int32) + nI (tkV n t i))).toNatClampNeg)) + (1 : Int32))) (fun v12_ => some v12_)))))) else some w2) = some w5 ∧ FrX w2 w5 ∧ LK w5 n t (tkE n t (tkE n t i)) ∧ (tkK n t (tkE n t (tkE n t i)) ≠ 4 → RD w5 (covA D (tkV n t i) (tkV n t (tkE n t i))) ∧ HR w5 (mxh HP (tkV n t i)) (mxh HS (tkV n t (tkE n t i))) wt pt) := by
            have q3' := q3
            rcases q3' with ⟨m4, m21, -⟩ | ⟨m4, m21, -⟩
            · exact ⟨w2, if_neg (by rw [m21]; decide), FrX.rf, q3, fun h => absurd m4 h⟩
            · have ea : w2 7 (6 + tkV n t i) = nI (D 7 (tkV n t i)) := by rw [e7]; exact (s1.2.1 _ hp6).2.1
              rw [if_pos (show w2 0 21 = 0 from m21)]
              simp (disch := omega) only [lit_nI 6, lit_nI 12, lit_nI 4, lit_nI 1, pk_mul, nI_add, nI_clamp, ea, inB_nI, ck_true, lett_eq]
              rw [up2_si (show 6 + tkV n t i ≠ 12 + 4 * tkV n t i + D 7 (tkV n t i) by omega), ea, nI_add]
              refine ⟨_, rfl, (FrX.row (by omega)).tr (FrX.row (by omega)), LK_row (LK_row q3 (by decide)) (by decide), fun _ => ⟨?_, ?_⟩⟩
              · generalize hw5 : up2 (up2 w2 7 (12 + 4 * tkV n t i + D 7 (tkV n t i)) (nI (tkV n t (tkE n t i)))) 7 (6 + tkV n t i) (nI (D 7 (tkV n t i) + 1)) = w5
                have b7 : ∀ j, j ≠ 12 + 4 * tkV n t i + D 7 (tkV n t i) → j ≠ 6 + tkV n t i → w5 7 j = w 7 j := fun j h1 h2 => by rw [← hw5, up2_si h2, up2_si h1, e7]
                have b6 : w5 7 (6 + tkV n t i) = nI (D 7 (tkV n t i) + 1) := by rw [← hw5, up2_ss]
                have b12 : w5 7 (12 + 4 * tkV n t i + D 7 (tkV n t i)) = nI (tkV n t (tkE n t i)) := by rw [← hw5, up2_si (by omega), up2_ss]
                have b8 : w5 8 = w 8 := by rw [← hw5, up2_n (by decide), up2_n (by decide), p2.1 8 (by decide), o2.1 8 (by decide)]
                have b9 : w5 9 = w 9 := by rw [← hw5, up2_n (by decide), up2_n (by decide), p2.1 9 (by decide), o2.1 9 (by decide)]
                have b0 : ∀ j, j ≠ 16 → j ≠ 17 → j < 21 → w5 0 j = w 0 j := fun j j6 j7 hj => by rw [← hw5, up2_n (by decide), up2_n (by decide), e0 j j6 j7 hj]
                unfold RD RDn RDp RDs RDz RDb RDf at s1 ⊢
                rw [covA_r (show 0 ≠ 8 by decide) (by decide), covA_r (show 6 ≠ 8 by decide) (by decide), covA_r (show 9 ≠ 8 by decide) (by decide), covA_r (show 10 ≠ 8 by decide) (by decide), covA_r (show 11 ≠ 8 by decide) (by decide), covA_r (show 12 ≠ 8 by decide) (by decide), covA_r (show 14 ≠ 8 by decide) (by decide), covA_r (show 15 ≠ 8 by decide) (by decide), covA_r (show 16 ≠ 8 by decide) (by decide)]
                rw [b8, b9, b0 10 (by decide) (by decide) (by decide), b0 11 (by decide) (by decide) (by decide), b0 12 (by decide) (by decide) (by decide), b0 13 (by decide) (by decide) (by decide)]
                refine ⟨s1.1, fun q hq6 => ?_, fun s hs => ?_, ⟨fun s hs => ?_, ?_, ?_⟩, s1.2.2.2.2⟩
                · have hsq := s1.2.1 q hq6
                  have hd := hWp q hq6
                  rw [covA_7]
                  by_cases hqp : q = tkV n t i
                  · rw [if_pos hqp, if_neg (by omega), hqp, b6, b7 _ (by omega) (by omega)]
                    refine ⟨by rw [← hqp]; exact hsq.1, rfl, fun k hk => ?_⟩
                    rw [covA_8, if_neg (by omega)]
                    by_cases hk2 : k = D 7 (tkV n t i)
                    · rw [if_pos (by omega), hk2, show 12 + (4 * tkV n t i + D 7 (tkV n t i)) = 12 + 4 * tkV n t i + D 7 (tkV n t i) by omega, b12]
                    · rw [if_neg (by omega), b7 _ (by omega) (by omega)]
                      rw [← hqp]
                      exact hsq.2.2 k (by rw [hqp]; omega)
                  · rw [if_neg hqp, b7 _ (by omega) (by omega), b7 _ (by omega) (by omega)]
                    refine ⟨hsq.1, hsq.2.1, fun k hk => ?_⟩
                    rw [covA_8, if_neg (by omega), if_neg (by omega), b7 _ (by omega) (by omega)]
                    exact hsq.2.2 k hk
                · have := s1.2.2.1 s hs
                  rw [b7 _ (by omega) (by omega), b7 _ (by omega) (by omega), b7 _ (by omega) (by omega), b7 _ (by omega) (by omega)]
                  exact this
                · rw [b7 _ (by omega) (by omega)]
                  exact s1.2.2.2.1.1 s hs
                · rw [b7 _ (by omega) (by omega)]
                  exact s1.2.2.2.1.2.1
                · rw [b7 _ (by omega) (by omega)]
                  exact s1.2.2.2.1.2.2
              · unfold HR
                rw [up2_n (show 0 ≠ 7 by decide), up2_n (show 0 ≠ 7 by decide)]
                exact ⟨by rw [e0 14 (by decide) (by decide) (by decide)]; exact s2.1, by rw [e0 15 (by decide) (by decide) (by decide)]; exact s2.2.1, by rw [p7]; exact k4, q4⟩
          obtain ⟨w5, y1, y2, y3, y4⟩ := hw5
          rw [y1, some_bind]
          have hS5 : Sy (up2 v4 0 12 (hiC (mxh HS (tkV n t (tkE n t i))))) u1 w5 n t (tkE n t (tkE n t i)) (covA D (tkV n t i) (tkV n t (tkE n t i))) (mxh HP (tkV n t i)) (mxh HS (tkV n t (tkE n t i))) wt pt := by
            refine ⟨CT_up f3 (by omega), ⟨by rw [up2_si (by decide)]; exact hH4.1, by rw [up2_si (by decide)]; exact hH4.2.1, by rw [up2_si (by decide)]; exact hH4.2.2.1, by rw [up2_ss]⟩, x2, ?_, hwt, y3, y4⟩
            obtain ⟨a1, a2, a3, a4, a5⟩ := WFd_m hW (show HP ≤ mxh HP (tkV n t i) by omega) (show HS ≤ mxh HS (tkV n t (tkE n t i)) by omega) hmx hmy
            unfold WFd WDn WDp WDs WDb WDf
            rw [covA_r (show 0 ≠ 8 by decide) (by decide), covA_r (show 6 ≠ 8 by decide) (by decide), covA_r (show 9 ≠ 8 by decide) (by decide), covA_r (show 10 ≠ 8 by decide) (by decide), covA_r (show 11 ≠ 8 by decide) (by decide), covA_r (show 12 ≠ 8 by decide) (by decide), covA_r (show 13 ≠ 8 by decide) (by decide), covA_r (show 14 ≠ 8 by decide) (by decide), covA_r (show 15 ≠ 8 by decide) (by decide), covA_r (show 16 ≠ 8 by decide) (by decide)]
            refine ⟨a1, fun q hq6 => ?_, a3, a4, a5⟩
            have hd := a2 q hq6
            rw [covA_7]
            by_cases hqp : q = tkV n t i
            · rw [if_pos hqp, if_neg (by omega)]
              refine ⟨hd.1, by omega, fun _ => by omega, fun k hk => ?_⟩
              rw [covA_8, if_neg (by omega)]
              by_cases hk2 : 4 * q + k = 4 * tkV n t i + D 7 (tkV n t i)
              · rw [if_pos hk2]
                omega
              · rw [if_neg hk2]
                exact hd.2.2.2 k (by rw [hqp] at hk2 ⊢; omega)
            · rw [if_neg hqp]
              refine ⟨hd.1, hd.2.1, hd.2.2.1, fun k hk => ?_⟩
              rw [covA_8, if_neg (by omega), if_neg (by omega)]
              exact hd.2.2.2 k hk
          obtain ⟨b, v', w', r1, r2, r3, r4⟩ := sgn_ln hn hb (hT.x (hF2.tr y2)) hS5
          rw [r1, some_bind]
          dsimp only
          rw [nz_bI, ck_true]
          refine ⟨b, v', _, w', rfl, r2, (hF2.tr y2).tr r3, LnR_t r4 ?_⟩
          have := tkE_gt (t := t) (n := n) (i := tkE n t i) hin2 (by omega) (by omega)
          omega
