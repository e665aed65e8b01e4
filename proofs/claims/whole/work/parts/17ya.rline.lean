/-! ===== PURE: a line of a text ===== -/
theorem nameHere_n {w : SV} (h : ¬ w 0 25 = 1) : m_X6_nameHere w = some (-4 : Int32) := by
  unfold m_X6_nameHere
  have hs : m_X6_nameHere_L2 w (0 : Int32) = some (.inr (.inl 0)) := by
    unfold m_X6_nameHere_L2
    rw [if_neg (show ¬ (9 : Int32) ≤ 0 by decide), if_neg h]
  rw [lp_done hs, some_bind]
  rfl
theorem J17_s {v u v' u' : SV} {k : Nat} {b : Bool} (hk : k < 4) (h : m_X0_readSitter v u (nI k) = some (bI b, v', u')) : m_X0_readLine_J17 v u (nI k) = some (bI b, v', u') := by
  have h4 : k = 0 ∨ k = 1 ∨ k = 2 ∨ k = 3 := by omega
  unfold m_X0_readLine_J17
  rcases h4 with rfl | rfl | rfl | rfl
  · rw [if_pos (by decide), h, some_bind, nz_bI, ck_true]
  · rw [if_neg (by decide), if_pos (by decide), h, some_bind, nz_bI, ck_true]
  · rw [if_neg (by decide), if_neg (by decide), if_pos (by decide), h, some_bind, nz_bI, ck_true]
  · rw [if_neg (by decide), if_neg (by decide), if_neg (by decide), if_pos (by decide), h, some_bind, nz_bI, ck_true]
theorem J17_4 {v u v' u' : SV} {b : Bool} (h : m_X0_readParts v u = some (bI b, v', u')) : m_X0_readLine_J17 v u (nI 4) = some (bI b, v', u') := by
  unfold m_X0_readLine_J17
  rw [if_neg (by decide), if_neg (by decide), if_neg (by decide), if_neg (by decide), if_pos (by decide), h, some_bind, nz_bI, ck_true]
theorem J17_5 {v u v' u' : SV} {b : Bool} (h : m_X0_readWorth v u = some (bI b, v', u')) : m_X0_readLine_J17 v u (nI 5) = some (bI b, v', u') := by
  unfold m_X0_readLine_J17
  rw [if_neg (by decide), if_neg (by decide), if_neg (by decide), if_neg (by decide), if_neg (by decide), if_pos (by decide), h, some_bind, nz_bI, ck_true]
theorem J17_6 {v u v' u' : SV} {b : Bool} (h : m_X0_readBond v u = some (bI b, v', u')) : m_X0_readLine_J17 v u (nI 6) = some (bI b, v', u') := by
  unfold m_X0_readLine_J17
  rw [if_neg (by decide), if_neg (by decide), if_neg (by decide), if_neg (by decide), if_neg (by decide), if_neg (by decide), if_pos (by decide), h, some_bind, nz_bI, ck_true]
theorem J17_7 {v u v' u' : SV} {b : Bool} (h : m_X0_readForger v u = some (bI b, v', u')) : m_X0_readLine_J17 v u (nI 7) = some (bI b, v', u') := by
  unfold m_X0_readLine_J17
  rw [if_neg (by decide), if_neg (by decide), if_neg (by decide), if_neg (by decide), if_neg (by decide), if_neg (by decide), if_neg (by decide), if_pos (by decide), h, some_bind, nz_bI, ck_true]
theorem J17_8 {v u v' u' : SV} {b : Bool} (h : m_X0_readPaint v u = some (bI b, v', u')) : m_X0_readLine_J17 v u (nI 8) = some (bI b, v', u') := by
  unfold m_X0_readLine_J17
  rw [if_neg (by decide), if_neg (by decide), if_neg (by decide), if_neg (by decide), if_neg (by decide), if_neg (by decide), if_neg (by decide), if_neg (by decide), if_pos (by decide), h, some_bind, nz_bI, ck_true]
theorem J17_n {v u : SV} : m_X0_readLine_J17 v u (-4 : Int32) = some (bI false, up2 (up2 v 0 3 (nI 2)) 0 4 (v 0 6), u) := by
  unfold m_X0_readLine_J17
  rw [if_neg (by decide), if_neg (by decide), if_neg (by decide), if_neg (by decide), if_neg (by decide), if_neg (by decide), if_neg (by decide), if_neg (by decide), if_neg (by decide), refuse_s, some_bind]
  rfl
theorem J104_e (w : SV) {k z : Int32} (hz : nzB z = true) : m_X6_readLine_J104 k w z = (m_X6_step (up2 w 0 14 z)).bind (fun y => rgo y k) := by
  unfold m_X6_readLine_J104
  rw [hz, ck_true]
  rfl
theorem J86_s {w : SV} {k : Int32} {pt : Bool} (h14 : w 0 14 = bI pt) : m_X6_readLine_J86 k w = (m_X6_step (up2 w 0 14 (bI (pt || decide (k = 4))))).bind (fun y => rgo y k) := by
  unfold m_X6_readLine_J86 m_X6_readLine_J99
  rw [J104_e w (show nzB (1 : Int32) = true by decide), J104_e w (show nzB (0 : Int32) = true by decide), h14]
  cases pt with
  | true => rw [if_neg (by decide)]; rfl
  | false =>
    rw [if_pos (by decide)]
    by_cases hk : k = 4
    · rw [if_pos hk, decide_eq_true hk]; rfl
    · rw [if_neg hk, decide_eq_false hk]; rfl
theorem rgo_b {w : SV} {c a : Nat} (h : Bk w c a) (k : Int32) : rgo w k = some w := by
  unfold rgo
  rw [h.1, if_neg (nI_nle h.2.2.1 (by have := h.2.2.2; omega))]
theorem J86_b {w : SV} {c a : Nat} (h : Bk w c a) (k : Int32) : ∃ w', m_X6_readLine_J86 k w = some w' ∧ FrX w w' ∧ Bk w' c a := by
  have hx : ∀ z : Int32, nzB z = true → m_X6_readLine_J104 k w z = some (up2 w 0 14 z) := fun z hz => by
    have hB := Bk_0 (j := 14) (x := z) h (by omega)
    rw [J104_e w hz, step_b hB.1 hB.2.2.1 hB.2.2.2, some_bind, rgo_b hB]
  unfold m_X6_readLine_J86 m_X6_readLine_J99
  rw [hx 1 (by decide), hx 0 (by decide)]
  split
  · split
    · exact ⟨_, rfl, FrX.up (by omega), Bk_0 h (by omega)⟩
    · exact ⟨_, rfl, FrX.up (by omega), Bk_0 h (by omega)⟩
  · exact ⟨_, rfl, FrX.up (by omega), Bk_0 h (by omega)⟩
theorem J64_b {w : SV} {a : Nat} (h21 : w 0 21 = nI 0) (h24 : w 0 24 = nI a) {k : Int32} (hk : k ≠ 4) : ∃ w', m_X6_readLine_J64 w k () = some w' ∧ FrX w w' ∧ Bk w' 5 a := by
  unfold m_X6_readLine_J64 m_X6_readLine_J69
  rw [show (5 : Int32) = nI 5 from rfl, fails_0 h21 h24, some_bind, if_neg hk]
  obtain ⟨w', r1, r2, r3⟩ := J86_b (Bk_up w 5 a (by omega) (by omega)) k
  exact ⟨w', r1, (FrX.k (FrK_up _ _ _)).tr r2, r3⟩
/-- the class has read the first token of a line -/
def Ln (v u w : SV) (n : Nat) (t : Nat → Nat) (i : Nat) (D : AS) (HP HS wt : Nat) (pt : Bool) : Prop := CT v n t (tkE n t i) ∧ v 0 5 = nI (tkK n t i) ∧ v 0 6 = nI (skA n t i) ∧ HC v HP HS wt pt ∧ RepC u D ∧ WFd D HP HS ∧ wt < 64 ∧ LK w n t i ∧ RD w D ∧ HR w HP HS wt pt
theorem rl_s {v u w : SV} {n i : Nat} {t : Nat → Nat} {D : AS} {HP HS wt : Nat} {pt : Bool} (hn : n ≤ 160) (hb : ∀ j, t j ≤ 127) (hT : RT w n t) (h27 : w 27 = v_X6 27) (h28 : w 28 = v_X6 28) (hin : i ≤ n) (h4 : tkK n t i ≠ 4) (h0 : tkK n t i ≠ 0) (h : Ln v u w n t i D HP HS wt pt) : ∃ b v' u' w', m_X0_readLine v u = some (bI b, v', u') ∧ m_X6_readLine w = some w' ∧ FrX w w' ∧ LnR n t i v' u' w' b := by
  obtain ⟨hC, h5, h6, hH, hR, hW, hwt, hL, s1, s2⟩ := h
  have hgt := tkE_gt hin h4 h0
  have hin2 := hC.2.2.2.1
  have hkl := tkK_lt n t i
  have hWn := hW.1
  unfold WDn at hWn
  rcases hL with ⟨k4, -⟩ | ⟨-, l21, l24, l25, l23, l26⟩
  · exact absurd k4 h4
  -- nobody knows the name
  have hno : m_X6_nameHere w = some (-4 : Int32) → m_X0_readLine v u = m_X0_readLine_J17 v u (-4 : Int32) → ∃ b v' u' w', m_X0_readLine v u = some (bI b, v', u') ∧ m_X6_readLine w = some w' ∧ FrX w w' ∧ LnR n t i v' u' w' b := fun e1 e2 => by
    have hin8 : m_X6_in ((-4 : Int32).toInt64) (0 : Int64) (8 : Int64) = some 0 := by
      rw [in_s (k := 9) (by decide) (by decide), show ix (-4 : Int32) 9 = none from by unfold ix; rw [if_neg (by decide)]]
      rfl
    rw [e2, J17_n, h6]
    unfold m_X6_readLine
    rw [e1, some_bind, hin8, some_bind, if_pos rfl, show (2 : Int32) = nI 2 from rfl, fails_0 l21 l24, some_bind]
    exact ⟨false, _, u, _, rfl, rfl, FrX.k (FrK_up _ _ _), .inl ⟨rfl, 2, skA n t i, Fc_up _ 2 _, Bk_up _ _ _ (by omega) (by omega), skA_le t (by assumption)⟩⟩
  by_cases hk1 : tkK n t i = 1
  · have hae : skA n t i ≤ tkE n t i := by
      unfold tkE
      by_cases c1 : n ≤ skA n t i
      · rw [if_pos c1]; exact Nat.le_refl _
      · rw [if_neg c1]
        split
        · omega
        · split
          · exact rnE_ge _ _ _ _ _
          · exact rnE_ge _ _ _ _ _
    have hcl : m_X0_readLine v u = m_X0_readLine_J17 v u (oI (firstN (nmB t (skA n t i) (tkE n t i - skA n t i)) 9)) := by
      unfold m_X0_readLine
      rw [if_pos (by rw [h5, hk1]; rfl), lineBegun_s u h6 hC.2.2.1 hae hin2 hn hC.2.1 hb, some_bind]
    have hrf := nameHere_s hT l24 l23 (by rw [l25, hk1]) h27 h28 hae hin2 hn hb
    cases hf : firstN (nmB t (skA n t i) (tkE n t i - skA n t i)) 9 with
    | none =>
      rw [hf] at hcl hrf
      exact hno hrf hcl
    | some k =>
      rw [hf] at hcl hrf
      have hk9 : k < 9 := (firstN_some hf).1
      rw [hcl]
      rw [show oI (some k) = nI k from rfl] at hrf ⊢
      have hrl : m_X6_readLine w = if (3 : Int32) < nI k then m_X6_readLine_J36 w (nI k) () else (if (w 0 11) = (5 : Int32) then m_X6_readLine_J64 w (nI k) () else m_X6_readLine_J36 w (nI k) ()) := by
        unfold m_X6_readLine
        rw [hrf, some_bind, in_s (k := 9) (by decide) (by decide), some_bind, ixS (by omega) (by decide), decide_eq_true hk9, if_neg (show ¬ bI true = 0 by decide)]
      rw [hrl]
      -- the reference goes on, once nothing is full
      have hgo : ∀ pt', (pt || decide (nI k = 4)) = pt' → ∃ w2, m_X6_readLine_J86 (nI k) w = rgo w2 (nI k) ∧ FrX w w2 ∧ LK w2 n t (tkE n t i) ∧ RD w2 D ∧ HR w2 HP HS wt pt' := fun pt' hpt => by
        rw [J86_s s2.1, hpt]
        obtain ⟨w2, d1, d2, d3⟩ := step_s (w := up2 w 0 14 (bI pt')) (hT.x (FrX.up (by omega))) hn hb hin2 (by rw [up2_si (by decide)]; exact l21) (by rw [up2_si (by decide)]; exact l23)
        rw [d1, some_bind]
        have e0 : ∀ j, j < 21 → j ≠ 14 → w2 0 j = w 0 j := fun j hj h14 => by rw [d3.2 j (by omega), up2_si h14]
        refine ⟨w2, rfl, (FrX.up (by omega)).tr (FrX.k d3), d2, RD_f s1 (by rw [d3.1 7 (by decide), up2_n (by decide)]) (by rw [d3.1 8 (by decide), up2_n (by decide)]) (by rw [d3.1 9 (by decide), up2_n (by decide)]) (fun j _ _ => e0 j (by omega) (by omega)), ?_⟩
        exact ⟨by rw [d3.2 14 (by omega), up2_ss], by rw [e0 15 (by decide) (by decide)]; exact s2.2.1, by rw [e0 16 (by decide) (by decide)]; exact s2.2.2.1, by rw [e0 17 (by decide) (by decide)]; exact s2.2.2.2⟩
      have hsy : k ≠ 4 → ∃ w2, m_X6_readLine_J86 (nI k) w = rgo w2 (nI k) ∧ FrX w w2 ∧ Sy v u w2 n t (tkE n t i) D HP HS wt pt := fun hk4 => by
        obtain ⟨w2, d1, d2, d3, d4, d5⟩ := hgo pt (by rw [decide_eq_false (show ¬ nI k = (4 : Int32) from fun e => hk4 ((nI_eq (b := 4) (by omega) (by decide)).1 e)), Bool.or_false])
        exact ⟨w2, d1, d2, hC, hH, hR, hW, hwt, d3, fun _ => ⟨d4, d5⟩⟩
      have hend : ∀ {w2 : SV} {f : Option (Int32 × SV × SV)} {g : Option SV}, FrX w w2 → (∃ b v' u' w', f = some (bI b, v', u') ∧ g = some w' ∧ FrX w2 w' ∧ LnR n t (tkE n t i) v' u' w' b) → ∃ b v' u' w', f = some (bI b, v', u') ∧ g = some w' ∧ FrX w w' ∧ LnR n t i v' u' w' b := fun {w2 f g} hF hh => by
        obtain ⟨b, v', u', w', r1, r2, r3, r4⟩ := hh
        exact ⟨b, v', u', w', r1, r2, hF.tr r3, LnR_t r4 (by omega)⟩
      have hJ : k ≠ 6 → k ≠ 7 → k ≠ 4 → m_X6_readLine_J36 w (nI k) () = m_X6_readLine_J86 (nI k) w := fun k6 k7 k4 => by
        unfold m_X6_readLine_J36 m_X6_readLine_J50 m_X6_readLine_J69
        rw [if_neg (show ¬ nI k = (6 : Int32) from fun e => k6 ((nI_eq (b := 6) (by omega) (by decide)).1 e)), if_neg (show ¬ nI k = (7 : Int32) from fun e => k7 ((nI_eq (b := 7) (by omega) (by decide)).1 e)), if_neg (show ¬ nI k = (4 : Int32) from fun e => k4 ((nI_eq (b := 4) (by omega) (by decide)).1 e))]
      have h3 : k < 4 ∨ (4 ≤ k ∧ (3 : Int32) < nI k) := by
        by_cases hk : k < 4
        · exact .inl hk
        · exact .inr ⟨by omega, (cast_lt (a := 3) (b := k) (by decide) (by omega)).mpr (by omega)⟩
      rcases h3 with hk | ⟨hk, hk3⟩
      · rw [if_neg (show ¬ (3 : Int32) < nI k from fun e => by
          have := (cast_lt (a := 3) (b := k) (by decide) (by omega)).mp e
          omega)]
        by_cases hf5 : D 0 1 = 5
        · rw [if_pos (show w 0 11 = 5 from by rw [s1.1.2.1, hf5]; rfl)]
          obtain ⟨w', r1, r2, r3⟩ := J64_b l21 l24 (k := nI k) (show ¬ nI k = (4 : Int32) from fun e => by
            have := (nI_eq (b := 4) (by omega) (by decide)).1 e
            omega)
          have hcs : m_X0_readSitter v u (nI k) = some (bI false, up2 (up2 v 0 3 (nI 5)) 0 4 (nI (skA n t i)), u) := by
            unfold m_X0_readSitter
            rw [hR.n (j := 1) (by decide), hf5, if_neg (show ¬ nI 5 < (5 : Int32) by decide), h6, refuse_s, some_bind]
            rfl
          rw [J17_s hk hcs]
          exact ⟨false, _, u, w', rfl, r1, r2, .inl ⟨rfl, 5, _, Fc_up _ 5 _, r3, skA_le t (by assumption)⟩⟩
        · rw [if_neg (show ¬ w 0 11 = 5 from by rw [s1.1.2.1]; exact fun e => hf5 ((nI_eq (b := 5) (by omega) (by decide)).1 e)), hJ (by omega) (by omega) (by omega)]
          obtain ⟨w2, d1, d2, d3⟩ := hsy (by omega)
          rw [d1]
          obtain ⟨b, v', u', w', r1, r2, r3, r4⟩ := ln_sitter hn hb (hT.x d2) hk (by omega) d3
          exact hend d2 ⟨b, v', u', w', J17_s hk r1, r2, r3, r4⟩
      · rw [if_pos hk3]
        have h5 : k = 4 ∨ k = 5 ∨ k = 6 ∨ k = 7 ∨ k = 8 := by omega
        rcases h5 with rfl | rfl | rfl | rfl | rfl
        · have hJ4 : m_X6_readLine_J36 w (nI 4) () = if (w 0 14) = 0 then m_X6_readLine_J86 (nI 4) w else (m_X6_fails w (4 : Int32)).bind (fun y83 => m_X6_readLine_J86 (nI 4) y83) := by
            unfold m_X6_readLine_J36 m_X6_readLine_J50 m_X6_readLine_J69
            rw [if_neg (show ¬ nI 4 = (6 : Int32) by decide), if_neg (show ¬ nI 4 = (7 : Int32) by decide), if_pos (show nI 4 = (4 : Int32) from rfl)]
          rw [hJ4]
          cases pt with
          | true =>
            rw [if_neg (show ¬ w 0 14 = 0 by rw [s2.1]; decide), show (4 : Int32) = nI 4 from rfl, fails_0 l21 l24, some_bind]
            obtain ⟨w', r1, r2, r3⟩ := J86_b (Bk_up w 4 (skA n t i) (by omega) (by omega)) (nI 4)
            have hcs : m_X0_readParts v u = some (bI false, up2 (up2 v 0 3 (nI 4)) 0 4 (nI (skA n t i)), u) := by
              unfold m_X0_readParts
              rw [if_neg (show ¬ v 0 9 = 0 by rw [hH.1]; decide), h6, refuse_s, some_bind]
              rfl
            rw [J17_4 hcs]
            exact ⟨false, _, u, w', rfl, r1, (FrX.k (FrK_up _ _ _)).tr r2, .inl ⟨rfl, 4, _, Fc_up _ 4 _, r3, skA_le t (by assumption)⟩⟩
          | false =>
            rw [if_pos (show w 0 14 = 0 by rw [s2.1]; rfl)]
            obtain ⟨w2, d1, d2, d3, d4, d5⟩ := hgo true (by decide)
            rw [d1]
            have hSy : Sy (up2 v 0 9 (1 : Int32)) u w2 n t (tkE n t i) D HP HS wt true := ⟨CT_up hC (by omega), ⟨by rw [up2_ss]; rfl, by rw [up2_si (by decide)]; exact hH.2.1, by rw [up2_si (by decide)]; exact hH.2.2.1, by rw [up2_si (by decide)]; exact hH.2.2.2⟩, hR, hW, hwt, d3, fun _ => ⟨d4, d5⟩⟩
            obtain ⟨b, v', u', w', r1, r2, r3, r4⟩ := ln_parts hn hb (hT.x d2) hH.1 hSy
            exact hend d2 ⟨b, v', u', w', J17_4 r1, r2, r3, r4⟩
        · rw [hJ (by omega) (by omega) (by omega)]
          obtain ⟨w2, d1, d2, d3⟩ := hsy (by omega)
          rw [d1]
          obtain ⟨b, v', u', w', r1, r2, r3, r4⟩ := ln_worth hn hb (hT.x d2) d3
          exact hend d2 ⟨b, v', u', w', J17_5 r1, r2, r3, r4⟩
        · have hJ6 : m_X6_readLine_J36 w (nI 6) () = if w 0 12 = 5 then m_X6_readLine_J64 w (nI 6) () else m_X6_readLine_J86 (nI 6) w := by
            unfold m_X6_readLine_J36 m_X6_readLine_J50 m_X6_readLine_J69
            rw [if_pos (show nI 6 = (6 : Int32) from rfl), if_neg (show ¬ nI 6 = (7 : Int32) by decide), if_neg (show ¬ nI 6 = (4 : Int32) by decide)]
          rw [hJ6]
          by_cases hf5 : D 0 2 = 5
          · rw [if_pos (show w 0 12 = 5 from by rw [s1.1.2.2.1, hf5]; rfl)]
            obtain ⟨w', r1, r2, r3⟩ := J64_b l21 l24 (k := nI 6) (by decide)
            have hcs : m_X0_readBond v u = some (bI false, up2 (up2 v 0 3 (nI 5)) 0 4 (nI (skA n t i)), u) := by
              unfold m_X0_readBond
              rw [hR.n (j := 2) (by decide), hf5, if_neg (show ¬ nI 5 < (5 : Int32) by decide), h6, refuse_s, some_bind]
              rfl
            rw [J17_6 hcs]
            exact ⟨false, _, u, w', rfl, r1, r2, .inl ⟨rfl, 5, _, Fc_up _ 5 _, r3, skA_le t (by assumption)⟩⟩
          · rw [if_neg (show ¬ w 0 12 = 5 from by rw [s1.1.2.2.1]; exact fun e => hf5 ((nI_eq (b := 5) (by omega) (by decide)).1 e))]
            obtain ⟨w2, d1, d2, d3⟩ := hsy (by omega)
            rw [d1]
            obtain ⟨b, v', u', w', r1, r2, r3, r4⟩ := ln_bond hn hb (hT.x d2) (by omega) d3
            exact hend d2 ⟨b, v', u', w', J17_6 r1, r2, r3, r4⟩
        · have hJ7 : m_X6_readLine_J36 w (nI 7) () = if w 0 13 = 4 then m_X6_readLine_J64 w (nI 7) () else m_X6_readLine_J86 (nI 7) w := by
            unfold m_X6_readLine_J36 m_X6_readLine_J50 m_X6_readLine_J69
            rw [if_neg (show ¬ nI 7 = (6 : Int32) by decide), if_pos (show nI 7 = (7 : Int32) from rfl), if_neg (show ¬ nI 7 = (4 : Int32) by decide)]
          rw [hJ7]
          by_cases hf5 : D 0 3 = 4
          · rw [if_pos (show w 0 13 = 4 from by rw [s1.1.2.2.2, hf5]; rfl)]
            obtain ⟨w', r1, r2, r3⟩ := J64_b l21 l24 (k := nI 7) (by decide)
            have hcs : m_X0_readForger v u = some (bI false, up2 (up2 v 0 3 (nI 5)) 0 4 (nI (skA n t i)), u) := by
              unfold m_X0_readForger
              rw [hR.n (j := 3) (by decide), hf5, if_neg (show ¬ nI 4 < (4 : Int32) by decide), h6, refuse_s, some_bind]
              rfl
            rw [J17_7 hcs]
            exact ⟨false, _, u, w', rfl, r1, r2, .inl ⟨rfl, 5, _, Fc_up _ 5 _, r3, skA_le t (by assumption)⟩⟩
          · rw [if_neg (show ¬ w 0 13 = 4 from by rw [s1.1.2.2.2]; exact fun e => hf5 ((nI_eq (b := 4) (by omega) (by decide)).1 e))]
            obtain ⟨w2, d1, d2, d3⟩ := hsy (by omega)
            rw [d1]
            obtain ⟨b, v', u', w', r1, r2, r3, r4⟩ := ln_forger hn hb (hT.x d2) (by omega) d3
            exact hend d2 ⟨b, v', u', w', J17_7 r1, r2, r3, r4⟩
        · rw [hJ (by omega) (by omega) (by omega)]
          obtain ⟨w2, d1, d2, d3⟩ := hsy (by omega)
          rw [d1]
          obtain ⟨b, v', u', w', r1, r2, r3, r4⟩ := ln_paint hn hb (hT.x d2) d3
          exact hend d2 ⟨b, v', u', w', J17_8 r1, r2, r3, r4⟩
  · refine hno (nameHere_n (by rw [l25]; exact fun e => hk1 ((nI_eq (b := 1) (by omega) (by decide)).1 e))) ?_
    unfold m_X0_readLine
    rw [if_neg (by rw [h5]; exact fun e => hk1 ((nI_eq (b := 1) (by omega) (by decide)).1 e))]
