/-! ===== PURE: sitters in a text ===== -/
theorem aset_ne {A : AS} {r i x k j : Nat} (h : k ≠ r ∨ j ≠ i) : aset A r i x k j = A k j := by
  unfold aset
  rw [if_neg]
  rintro ⟨h1, h2⟩
  omega
noncomputable def sR3 (w : SV) : Option SV := (lpC m_X6_readSitter_L54 ((0 : Int32), w)).bind m_X6_readSitter_K54
noncomputable def sR2 (S : Nat) (w : SV) : Option SV := (m_X6_other w (0 : Int32) (9 : Int32) (0 : Int32)).bind (fun y => sR3 (up2 y.2 7 (46 + S) y.1))
theorem rS_1 {w w2 : SV} {x y1 : Int32} {S : Nat} (e11 : w 0 11 = nI S) (hS : S < 5) (o : m_X6_other (up2 w 7 (36 + S) x) (0 : Int32) (5 : Int32) (0 : Int32) = some (y1, w2)) (e2 : w2 0 11 = nI S) : m_X6_readSitter w x = sR2 S (up2 w2 7 (41 + S) y1) := by
  unfold m_X6_readSitter
  simp (disch := omega) only [lett_eq, up2_n (show (0 : Nat) ≠ 7 by decide), e11, lit_nI 36, lit_nI 41, lit_nI 46, nI_add, inB_nI, ck_true, nI_clamp]
  rw [o, some_bind]
  dsimp only
  simp (disch := omega) only [e2, nI_add, inB_nI, ck_true, nI_clamp]
  rfl
theorem K54_s {w : SV} {x : Int32} {S : Nat} (e11 : w 0 11 = nI S) (hS : S < 5) : m_X6_readSitter_K54 (x, w) = some (up2 (up2 w 7 (51 + S) x) 0 11 (nI (S + 1))) := by
  unfold m_X6_readSitter_K54
  simp (disch := omega) only [lett_eq, up2_n (show (0 : Nat) ≠ 7 by decide), e11, lit_nI 51, i1, nI_add, inB_nI, ck_true, nI_clamp]
theorem sR3_b {w : SV} {c a S : Nat} (h : Bk w c a) (e11 : w 0 11 = nI S) (hS : S < 5) : ∃ w', (sR3 w).bind tlR = some w' ∧ FrX w w' ∧ Bk w' c a := by
  unfold sR3
  rw [lp_done (L54_b h _), some_bind, K54_s e11 hS, some_bind]
  have hB := Bk_0 (j := 11) (x := nI (S + 1)) (Bk_row (k := 7) (j := 51 + S) (x := 0) h (by decide)) (by omega)
  rw [tail_b hB]
  exact ⟨_, rfl, (FrX.row (by omega)).tr (FrX.up (by omega)), hB⟩
theorem sR2_b {w : SV} {c a S : Nat} (h : Bk w c a) (e11 : w 0 11 = nI S) (hS : S < 5) : ∃ w', (sR2 S w).bind tlR = some w' ∧ FrX w w' ∧ Bk w' c a := by
  unfold sR2
  rw [other_b h, some_bind]
  obtain ⟨w', r1, r2, r3⟩ := sR3_b (w := up2 w 7 (46 + S) (0 : Int32)) (Bk_row h (by decide)) (by rw [up2_n (by decide)]; exact e11) hS
  exact ⟨w', r1, (FrX.row (by omega)).tr r2, r3⟩
theorem ln_sitter {v u w : SV} {n i k : Nat} {t : Nat → Nat} {D : AS} {HP HS wt : Nat} {pt : Bool} (hn : n ≤ 160) (hb : ∀ j, t j ≤ 127) (hT : RT w n t) (hk : k < 4) (hD : D 0 1 < 5) (h : Sy v u w n t i D HP HS wt pt) : ∃ b v' u' w', m_X0_readSitter v u (nI k) = some (bI b, v', u') ∧ rgo w (nI k) = some w' ∧ FrX w w' ∧ LnR n t i v' u' w' b := by
  obtain ⟨hC, hH, hR, hW, hwt, hL, hS⟩ := h
  have hin := hC.2.2.2.1
  have hV := tkV_lt n t i hb
  have hWn := hW.1
  unfold WDn at hWn
  have hu1 : u 0 1 = nI (D 0 1) := hR.n (by decide)
  have hrm : ∀ w : SV, m_X6_readMore w (nI k) = m_X6_readSitter w (nI k) := fun w => by
    have h4 : k = 0 ∨ k = 1 ∨ k = 2 ∨ k = 3 := by omega
    unfold m_X6_readMore
    rcases h4 with rfl | rfl | rfl | rfl <;> (rw [if_neg (by decide), if_neg (by decide), if_neg (by decide), if_neg (by decide), if_neg (by decide)]; cases m_X6_readSitter w (nI _) <;> rfl)
  unfold m_X0_readSitter
  rw [hu1, if_pos (show nI (D 0 1) < (5 : Int32) from (cast_lt (b := 5) (by omega) (by decide)).mpr hD)]
  simp (disch := omega) only [inB_nI, ck_true, nI_clamp, lett_eq]
  generalize hu2 : up2 (up2 u 9 (D 0 1) (nI k)) 13 (D 0 1) (0 : Int32) = u2
  have hR2 : RepC u2 (aset (aset D 9 (D 0 1) k) 13 (D 0 1) 0) := by
    rw [← hu2]
    exact (hR.set (by decide)).set (x := 0) (by decide)
  obtain ⟨v2, c1, c6, c2⟩ := readNumber_s u2 (lo := 0) (hi := 5) hC hn hb (by omega) (by omega)
  have hH2 := HC_C hH c1
  rw [show m_X0_readNumber v u2 (0 : Int32) (5 : Int32) = m_X0_readNumber v u2 (nI 0) (nI 5) from rfl]
  by_cases h4 : tkK n t i = 4
  · obtain ⟨q1, q2⟩ := rgo_4 hL h4 (nI k)
    rcases c2 with ⟨e1, e2, e3⟩ | ⟨e1, -⟩
    · rw [nfC_4 h4] at e3
      rw [e2, some_bind]
      exact ⟨false, v2, u2, w, rfl, q1, FrX.rf, .inl ⟨rfl, _, _, e3, q2, skA_le t (by assumption)⟩⟩
    · rw [nfC_4 h4] at e1; omega
  · obtain ⟨s1, s2⟩ := hS h4
    have e11 : w 0 11 = nI (D 0 1) := s1.1.2.1
    obtain ⟨y1, w2, o1, o2, o3⟩ := other_s (w := up2 w 7 (36 + D 0 1) (nI k)) (lo := 0) (hi := 5) (so := 0) (hT.x (FrX.row (by omega))) hn hb hin (LK_row hL (by decide)) (by omega) (by omega) (by omega)
    have e2_11 : w2 0 11 = nI (D 0 1) := by rw [o2.2 11 (by omega), up2_n (by decide)]; exact e11
    have e3_11 : up2 w2 7 (41 + D 0 1) y1 0 11 = nI (D 0 1) := by rw [up2_n (by decide)]; exact e2_11
    have hF3 : FrX w (up2 w2 7 (41 + D 0 1) y1) := ((FrX.row (by omega)).tr (FrX.k o2)).tr (FrX.row (by omega))
    rw [rgo_n hL h4, hrm, rS_1 e11 hD o1 e2_11]
    rcases c2 with ⟨e1, e2, e3⟩ | ⟨e1, e2, e3, e4⟩
    · rcases o3 with ⟨k1, rfl, k3⟩ | ⟨k1, -⟩
      · obtain ⟨w', r1, r2, r3⟩ := sR2_b (S := D 0 1) (Bk_row (k := 7) (j := 41 + D 0 1) (x := nI 0) k3 (by decide)) e3_11 hD
        rw [e2, some_bind]
        exact ⟨false, v2, u2, w', rfl, r1, hF3.tr r2, .inl ⟨rfl, _, _, e3, r3, skA_le t (by assumption)⟩⟩
      · exact absurd k1 e1
    · rcases o3 with ⟨k1, -⟩ | ⟨-, rfl, k3⟩
      · exact absurd e1 k1
      obtain ⟨z1, z2, z3, -⟩ := nfC_0 e1
      have hgt := tkE_gt hin h4 (by omega)
      have hin2 := tkE_le t hin
      have hV2 := tkV_lt n t (tkE n t i) hb
      rw [e2, some_bind]
      dsimp +instances only
      rw [if_neg (show ¬ (1 : Int32) = 0 from by decide), e4]
      obtain ⟨v4, d1, d6, d2⟩ := readNumber_s (up2 u2 10 (D 0 1) (nI (tkV n t i))) (lo := 0) (hi := 9) e3 hn hb (by omega) (by omega)
      have hH4 := HC_C hH2 d1
      rw [show m_X0_readNumber v2 (up2 u2 10 (D 0 1) (nI (tkV n t i))) (0 : Int32) (9 : Int32) = m_X0_readNumber v2 (up2 u2 10 (D 0 1) (nI (tkV n t i))) (nI 0) (nI 9) from rfl]
      obtain ⟨y2, w4, p1, p2, p3⟩ := other_s (w := up2 w2 7 (41 + D 0 1) (nI (tkV n t i))) (lo := 0) (hi := 9) (so := 0) (hT.x hF3) hn hb hin2 (LK_row k3 (by decide)) (by omega) (by omega) (by omega)
      have e5_11 : up2 w4 7 (46 + D 0 1) y2 0 11 = nI (D 0 1) := by rw [up2_n (by decide), p2.2 11 (by omega)]; exact e3_11
      have hF5 : FrX w (up2 w4 7 (46 + D 0 1) y2) := (hF3.tr (FrX.k p2)).tr (FrX.row (by omega))
      unfold sR2
      rw [show m_X6_other (up2 w2 7 (41 + D 0 1) (nI (tkV n t i))) (0 : Int32) (9 : Int32) (0 : Int32) = some (y2, w4) from p1, some_bind]
      dsimp only
      rcases d2 with ⟨f1, f2, f3⟩ | ⟨f1, f2, f3, f4⟩
      · rcases p3 with ⟨q1, rfl, q3⟩ | ⟨q1, -⟩
        · obtain ⟨w', r1, r2, r3⟩ := sR3_b (S := D 0 1) (Bk_row (k := 7) (j := 46 + D 0 1) (x := nI 0) q3 (by decide)) e5_11 hD
          rw [f2, some_bind]
          exact ⟨false, v4, _, w', rfl, r1, hF5.tr r2, .inl ⟨rfl, _, _, f3, r3, skA_le t (by assumption)⟩⟩
        · exact absurd q1 f1
      · rcases p3 with ⟨q1, -⟩ | ⟨-, rfl, q3⟩
        · exact absurd f1 q1
        obtain ⟨g1, g2, g3, -⟩ := nfC_0 f1
        have hgt2 := tkE_gt (t := t) hin2 (by omega) (by omega)
        have hin3 := tkE_le t hin2
        rw [f2, some_bind]
        dsimp +instances only
        rw [if_neg (show ¬ (1 : Int32) = 0 from by decide), f4]
        generalize hu4 : up2 (up2 u2 10 (D 0 1) (nI (tkV n t i))) 11 (D 0 1) (nI (tkV n t (tkE n t i))) = u4
        have hR4 : RepC u4 (aset (aset (aset (aset D 9 (D 0 1) k) 13 (D 0 1) 0) 10 (D 0 1) (tkV n t i)) 11 (D 0 1) (tkV n t (tkE n t i))) := by
          rw [← hu4]
          exact (hR2.set (by decide)).set (by decide)
        obtain ⟨ok, p, v6, w6, bc, bw, r, b1, b2, b3, b4, b5, b6, b7⟩ := bitsS u4 hn hb (n - tkE n t (tkE n t i) + 1) (tkE n t (tkE n t i)) 0 0 v4 (up2 w4 7 (46 + D 0 1) (nI (tkV n t (tkE n t i)))) (by omega) (by omega) (by omega) f3 (LK_row q3 (by decide)) (hT.x hF5)
        have hbc : m_X0_readBits v4 u4 (6 : Int32) = some (bc, v6) := by
          unfold m_X0_readBits
          rw [show lpC (m_X0_readBits_L4 u4 (6 : Int32)) ((0 : Int32), (0 : Int32), v4) = some r from b4, some_bind]
          exact b5
        have e7_11 : w6 0 11 = nI (D 0 1) := by rw [b3.2 11 (by omega)]; exact e5_11
        rw [hbc, some_bind]
        unfold sR3
        rw [show lpC m_X6_readSitter_L54 ((0 : Int32), up2 w4 7 (46 + D 0 1) (nI (tkV n t (tkE n t i)))) = some (bw, w6) from b6, some_bind, K54_s e7_11 hD, some_bind]
        dsimp +instances only
        have hu41 : u4 0 1 = nI (D 0 1) := by rw [← hu4, up2_n (by decide), up2_n (by decide), ← hu2, up2_n (by decide), up2_n (by decide)]; exact hu1
        rw [up2_n (show 0 ≠ 12 by decide), hu41, i1]
        have hF7 : FrX w (up2 (up2 w6 7 (51 + D 0 1) bw) 0 11 (nI (D 0 1 + 1))) := ((hF5.tr (FrX.k b3)).tr (FrX.row (by omega))).tr (FrX.up (by omega))
        rcases b7 with ⟨rfl, ⟨B, hB, rfl, rfl⟩, hp, hk3, hCp, hLp⟩ | ⟨rfl, c, a, hF, hQ, ha⟩
        · rw [if_pos (show v6 0 3 = 0 from hCp.2.2.2.2)]
          obtain ⟨w', d1', d2', d3'⟩ := tail_s (hT.x hF7) hn hb hp (LK_up (LK_row hLp (by decide)) (by omega))
          have hsg : sgC n t p = 0 := by unfold sgC; rw [if_neg (by omega), if_neg (by omega)]
          rcases d3' with ⟨x1, -⟩ | ⟨-, x2⟩
          · exact absurd hsg x1
          have hgt3 := tkE_gt (t := t) hp (by omega) (by omega)
          generalize hD' : aset (aset (aset (aset (aset (aset D 9 (D 0 1) k) 13 (D 0 1) 0) 10 (D 0 1) (tkV n t i)) 11 (D 0 1) (tkV n t (tkE n t i))) 12 (D 0 1) B) 0 1 (D 0 1 + 1) = D'
          have hRD : RepC (up2 (up2 u4 12 (D 0 1) (nI B)) 0 1 (nI (D 0 1 + 1))) D' := by
            rw [← hD']
            exact (hR4.set (by decide)).set0 (by decide)
          have a0 : ∀ j, j ≠ 1 → D' 0 j = D 0 j := fun j hj => by rw [← hD', aset_ne (.inr hj), aset_ne (.inl (by decide)), aset_ne (.inl (by decide)), aset_ne (.inl (by decide)), aset_ne (.inl (by decide)), aset_ne (.inl (by decide))]
          have a01 : D' 0 1 = D 0 1 + 1 := by rw [← hD', aset_s]
          have ar : ∀ r, (r = 6 ∨ r = 7 ∨ r = 8 ∨ 13 < r) → D' r = D r := fun r hr => by rw [← hD', aset_r (by omega), aset_r (by omega), aset_r (by omega), aset_r (by omega), aset_r (by omega), aset_r (by omega)]
          have as : ∀ r s, r ≠ 0 → s ≠ D 0 1 → D' r s = D r s := fun r s h0 hs => by rw [← hD', aset_ne (.inl h0), aset_ne (.inr hs), aset_ne (.inr hs), aset_ne (.inr hs), aset_ne (.inr hs), aset_ne (.inr hs)]
          have a9 : D' 9 (D 0 1) = k := by rw [← hD', aset_ne (.inl (by decide)), aset_ne (.inl (by decide)), aset_ne (.inl (by decide)), aset_ne (.inl (by decide)), aset_ne (.inl (by decide)), aset_s]
          have a13 : D' 13 (D 0 1) = 0 := by rw [← hD', aset_ne (.inl (by decide)), aset_ne (.inl (by decide)), aset_ne (.inl (by decide)), aset_ne (.inl (by decide)), aset_s]
          have a10 : D' 10 (D 0 1) = tkV n t i := by rw [← hD', aset_ne (.inl (by decide)), aset_ne (.inl (by decide)), aset_ne (.inl (by decide)), aset_s]
          have a11 : D' 11 (D 0 1) = tkV n t (tkE n t i) := by rw [← hD', aset_ne (.inl (by decide)), aset_ne (.inl (by decide)), aset_s]
          have a12 : D' 12 (D 0 1) = B := by rw [← hD', aset_ne (.inl (by decide)), aset_s]
          clear hD'
          have hlo : ∀ j, j < 21 → j ≠ 11 → w' 0 j = w 0 j := fun j hj h11 => by rw [d2'.2 j (by omega), up2_si h11, up2_n (by decide), b3.2 j (by omega), up2_n (by decide), p2.2 j (by omega), up2_n (by decide), o2.2 j (by omega), up2_n (by decide)]
          have h011 : w' 0 11 = nI (D 0 1 + 1) := by rw [d2'.2 11 (by omega), up2_ss]
          have hr8 : ∀ r, r ≠ 0 → r ≠ 7 → w' r = w r := fun r h0 h7 => by rw [d2'.1 r h0, up2_n h0, up2_n h7, b3.1 r h0, up2_n h7, p2.1 r h0, up2_n h7, o2.1 r h0, up2_n h7]
          have hr7 : ∀ j, j ≠ 36 + D 0 1 → j ≠ 41 + D 0 1 → j ≠ 46 + D 0 1 → j ≠ 51 + D 0 1 → w' 7 j = w 7 j := fun j h1 h2 h3 h5 => by rw [d2'.1 7 (by decide), up2_n (by decide), up2_si h5, b3.1 7 (by decide), up2_si h3, p2.1 7 (by decide), up2_si h2, o2.1 7 (by decide), up2_si h1]
          have h36 : w' 7 (36 + D 0 1) = nI k := by rw [d2'.1 7 (by decide), up2_n (by decide), up2_si (by omega), b3.1 7 (by decide), up2_si (by omega), p2.1 7 (by decide), up2_si (by omega), o2.1 7 (by decide), up2_ss]
          have h41 : w' 7 (41 + D 0 1) = nI (tkV n t i) := by rw [d2'.1 7 (by decide), up2_n (by decide), up2_si (by omega), b3.1 7 (by decide), up2_si (by omega), p2.1 7 (by decide), up2_ss]
          have h46 : w' 7 (46 + D 0 1) = nI (tkV n t (tkE n t i)) := by rw [d2'.1 7 (by decide), up2_n (by decide), up2_si (by omega), b3.1 7 (by decide), up2_ss]
          have h51 : w' 7 (51 + D 0 1) = nI B := by rw [d2'.1 7 (by decide), up2_n (by decide), up2_ss]
          refine ⟨true, v6, _, w', rfl, d1', hF7.tr (FrX.k d2'), .inr ⟨rfl, tkE n t p, D', HP, HS, wt, pt, by omega, hCp, HC_C hH4 b2, hRD, ?_, hwt, x2, fun _ => ⟨?_, ?_⟩⟩⟩
          · obtain ⟨a1, a2, a3, a4, a5⟩ := hW
            unfold WFd WDn WDp WDs WDb WDf
            rw [a0 0 (by decide), a01, a0 2 (by decide), a0 3 (by decide), a0 4 (by decide), a0 5 (by decide), ar 6 (by omega), ar 7 (by omega), ar 8 (by omega), ar 14 (by omega), ar 15 (by omega), ar 16 (by omega)]
            refine ⟨by omega, a2, fun s hs => ?_, a4, a5⟩
            by_cases hsS : s = D 0 1
            · rw [hsS, a9, a10, a11, a12, a13]
              exact ⟨by omega, z3, g3, by omega, rfl⟩
            · rw [as 9 s (by decide) hsS, as 10 s (by decide) hsS, as 11 s (by decide) hsS, as 12 s (by decide) hsS, as 13 s (by decide) hsS]
              exact a3 s (by omega)
          · unfold RD RDn RDp RDs RDz RDb RDf at s1 ⊢
            rw [a0 0 (by decide), a01, a0 2 (by decide), a0 3 (by decide), ar 6 (by omega), ar 7 (by omega), ar 8 (by omega), ar 14 (by omega), ar 15 (by omega), ar 16 (by omega), hlo 10 (by decide) (by decide), h011, hlo 12 (by decide) (by decide), hlo 13 (by decide) (by decide), hr8 8 (by decide) (by decide), hr8 9 (by decide) (by decide)]
            refine ⟨⟨s1.1.1, rfl, s1.1.2.2⟩, fun q hq6 => ?_, fun s hs => ?_, ⟨fun s hs => ?_, ?_, ?_⟩, s1.2.2.2.2⟩
            · have h7 := (hW.2.1 q hq6).2.1
              have := s1.2.1 q hq6
              rw [hr7 q (by omega) (by omega) (by omega) (by omega), hr7 (6 + q) (by omega) (by omega) (by omega) (by omega)]
              refine ⟨this.1, this.2.1, fun k' hk' => ?_⟩
              rw [hr7 _ (by omega) (by omega) (by omega) (by omega)]
              exact this.2.2 k' hk'
            · by_cases hsS : s = D 0 1
              · rw [hsS, a9, a10, a11, a12]
                exact ⟨h36, h41, h46, h51⟩
              · rw [as 9 s (by decide) hsS, as 10 s (by decide) hsS, as 11 s (by decide) hsS, as 12 s (by decide) hsS, hr7 _ (by omega) (by omega) (by omega) (by omega), hr7 _ (by omega) (by omega) (by omega) (by omega), hr7 _ (by omega) (by omega) (by omega) (by omega), hr7 _ (by omega) (by omega) (by omega) (by omega)]
                exact s1.2.2.1 s (by omega)
            · rw [hr7 _ (by omega) (by omega) (by omega) (by omega)]
              exact s1.2.2.2.1.1 s hs
            · rw [hr7 _ (by omega) (by omega) (by omega) (by omega)]
              exact s1.2.2.2.1.2.1
            · rw [hr7 _ (by omega) (by omega) (by omega) (by omega)]
              exact s1.2.2.2.1.2.2
          · exact ⟨by rw [hlo 14 (by decide) (by decide)]; exact s2.1, by rw [hlo 15 (by decide) (by decide)]; exact s2.2.1, by rw [hlo 16 (by decide) (by decide)]; exact s2.2.2.1, by rw [hlo 17 (by decide) (by decide)]; exact s2.2.2.2⟩
        · obtain ⟨w', d1', d2', d3'⟩ := BQ_t (hT.x hF7) hn hb (BQ_0 (j := 11) (x := nI (D 0 1 + 1)) (BQ_row (k := 7) (j := 51 + D 0 1) (x := bw) hQ (by decide)) (by omega))
          have hc0 : ¬ v6 0 3 = 0 := by
            rw [hF.1]
            intro e
            have := d3'.2.2
            have := (nI_eq (a := c) (b := 0) (by omega) (by decide)).1 e
            omega
          rw [if_neg hc0]
          exact ⟨false, v6, _, w', rfl, d1', hF7.tr (FrX.k d2'), .inl ⟨rfl, c, a, hF, d3', ha⟩⟩
