/-! ===== PURE: the operation text, both sides ===== -/
theorem neg10 : ∀ a, a < 161 → (-10 : Int32) - nI a < 0 := by decide +kernel
theorem hiC_lt {H P : Nat} (hH : H < 1000) (hP : P < 1000) : (hiC H < nI P) = (H ≤ P) := by
  unfold hiC
  by_cases h0 : H = 0
  · rw [if_pos h0, h0]
    refine propext ⟨fun _ => Nat.zero_le _, fun _ => ?_⟩
    rw [Int32.lt_iff_toInt_lt, nI_toInt (by omega), show (-4 : Int32).toInt = -4 from rfl]
    omega
  · rw [if_neg h0]
    exact (cast_lt (by omega) (by omega)).trans (propext (by omega))
theorem hiC_ge {H P : Nat} (hH : H < 1000) (hP : P < 1000) : (nI P ≤ hiC H) = (P < H) := by
  unfold hiC
  by_cases h0 : H = 0
  · rw [if_pos h0, h0]
    refine propext ⟨fun h => ?_, fun h => by omega⟩
    rw [Int32.le_iff_toInt_le, nI_toInt (by omega), show (-4 : Int32).toInt = -4 from rfl] at h
    omega
  · rw [if_neg h0]
    exact (cast_le (by omega) (by omega)).trans (propext (by omega))
theorem pr_ti {H : Nat} (hH : H < 1000) : (nI H + (-1 : Int32)).toInt = (H : Int) - 1 := by
  by_cases h0 : H = 0
  · subst h0; rfl
  · rw [show nI H + (-1 : Int32) = nI (H - 1) from by
      have : nI H = nI (H - 1) + (1 : Int32) := by rw [i1]; congr 1; omega
      rw [this, Int32.add_assoc]
      exact Int32.add_zero _, nI_toInt (by omega)]
    omega
theorem prI_lt {H P : Nat} (hH : H < 1000) (hP : P < 1000) : (nI H + (-1 : Int32) < nI P) = (H ≤ P) := by
  rw [Int32.lt_iff_toInt_lt, nI_toInt (by omega), pr_ti hH]
  exact propext (by omega)
theorem prI_ge {H P : Nat} (hH : H < 1000) (hP : P < 1000) : (nI P ≤ nI H + (-1 : Int32)) = (P < H) := by
  rw [Int32.le_iff_toInt_le, nI_toInt (by omega), pr_ti hH]
  exact propext (by omega)
theorem Fc_n0 {v : SV} {c a : Nat} (hF : Fc v c a) (h0 : 0 < c) (h6 : c ≤ 6) : ¬ v 0 3 = 0 := by
  rw [hF.1]
  intro e
  have := (nI_eq (b := 0) (by omega) (by decide)).1 e
  omega
/-- how the text ends: a fault, or a street -/
theorem tx_end {n : Nat} {v u w : SV} {c1 c2 : Int32} (hn : n ≤ 160) (h : TxE n v u w c1 c2) : ∃ v' x, m_X0_readText_K41 (c1, v, u) = some (x, v', u) ∧ v' 0 1 = nI 0 ∧ ((x < 0 ∧ ∃ w', m_X6_text_K10 (c2, w) = some (x, w') ∧ v' 0 3 = w' 0 20 ∧ w' 0 19 = nI 0 ∧ (∀ r, r ≠ 0 → w' r = w r) ∧ ∀ j, j ≠ 19 → j ≠ 20 → j ≠ 21 → j ≠ 22 → w' 0 j = w 0 j) ∨ (¬ x < 0 ∧ v' 0 3 = 0 ∧ ∃ D w5, RepC u D ∧ WFd D (D 0 0) (D 0 1) ∧ RD w D ∧ (lpC m_X6_text_L99 ((0 : Int32), up2 (up2 w 0 19 0) 0 20 (nI 0))) = some (nI 63, w5) ∧ m_X6_text_K10 (c2, w) = (m_X6_text_K99 (c2, w) (nI 63, w5)) ∧ c2 = x)) := by
  -- both sides, with a fault
  have hcl : ∀ {v : SV} {c a : Nat}, Fc v c a → 0 < c → c ≤ 6 → m_X0_readText_J121 (c1, v, u) v = some ((-10 : Int32) - nI a, up2 v 0 1 0, u) := fun {v c a} hF h0 h6 => by
    unfold m_X0_readText_J121
    rw [lett_eq, if_neg (show ¬ up2 v 0 1 0 0 3 = 0 by rw [up2_si (by decide)]; exact Fc_n0 hF h0 h6), up2_si (by decide), hF.2]
  have hrf : ∀ {w : SV} {c a : Nat} (z : SV), Bk w c a → m_X6_text_J69 (c2, z) w = some ((-10 : Int32) - nI a, up2 (up2 w 0 19 0) 0 20 (nI c)) := fun {w c a} z hB => by
    unfold m_X6_text_J69
    simp only [lett_eq]
    rw [up2_si (show 21 ≠ 19 by decide), hB.1, if_neg (show ¬ up2 (up2 w 0 19 0) 0 20 (nI c) 0 21 ≤ 0 by rw [up2_si (by decide), up2_si (by decide), hB.1]; exact nI_nle hB.2.2.1 (by have := hB.2.2.2; omega)), up2_si (by decide), up2_si (by decide), hB.2.1]
  rcases h with ⟨c, a, hF, hB, ha⟩ | ⟨rfl, h3, h1, h21, h24, k, D, HP, HS, wt, pt, rfl, hk, hH, hR, hW, hD, hHR⟩
  · refine ⟨up2 v 0 1 0, (-10 : Int32) - nI a, ?_, up2_ss, .inl ⟨neg10 a (by omega), up2 (up2 w 0 19 0) 0 20 (nI c), ?_, by rw [up2_si (by decide), up2_ss, hF.1], by rw [up2_si (by decide), up2_ss]; rfl, fun r hr => by rw [up2_n hr, up2_n hr], fun j h19 h20 _ _ => by rw [up2_si h20, up2_si h19]⟩⟩
    · unfold m_X0_readText_K41
      dsimp only
      rw [if_neg (Fc_n0 hF (by have := hB.2.2.1; omega) hB.2.2.2)]
      exact hcl hF (by have := hB.2.2.1; omega) hB.2.2.2
    · unfold m_X6_text_K10
      dsimp only
      rw [if_neg (Bk_n0 hB)]
      exact hrf w hB
  · have hWn := hW.1
    unfold WDn at hWn
    have hK : m_X0_readText_K41 (nI k, v, u) = if D 0 0 < HP ∨ D 0 1 < HS then m_X0_readText_J110 (nI k, v, u) () else m_X0_readText_J121 (nI k, v, u) v := by
      unfold m_X0_readText_K41
      dsimp only
      rw [if_pos h3, ifp (show (u 0 0 ≤ v 0 11) = (D 0 0 < HP) by rw [hR.n (j := 0) (by decide), hH.2.2.1]; exact hiC_ge (by omega) (by omega)), ifp (show (v 0 12 < u 0 1) = (HS ≤ D 0 1) by rw [hR.n (j := 1) (by decide), hH.2.2.2]; exact hiC_lt (by omega) (by omega))]
      by_cases q1 : D 0 0 < HP
      · rw [if_pos q1, if_pos (Or.inl q1)]
      · rw [if_neg q1]
        by_cases q2 : HS ≤ D 0 1
        · rw [if_pos q2, if_neg (by omega)]
        · rw [if_neg q2, if_pos (by omega)]
    have hK' : m_X6_text_K10 (nI k, w) = if D 0 0 < HP ∨ D 0 1 < HS then m_X6_text_J63 (nI k, w) () else m_X6_text_J69 (nI k, w) w := by
      unfold m_X6_text_K10
      dsimp only
      rw [if_pos (show w 0 21 = 0 from h21), ifp (show (w 0 10 ≤ w 0 16) = (D 0 0 < HP) by rw [hD.1.1, hHR.2.2.1]; exact prI_ge (by omega) (by omega)), ifp (show (w 0 17 < w 0 11) = (HS ≤ D 0 1) by rw [hD.1.2.1, hHR.2.2.2]; exact prI_lt (by omega) (by omega))]
      by_cases q1 : D 0 0 < HP
      · rw [if_pos q1, if_pos (Or.inl q1)]
      · rw [if_neg q1]
        by_cases q2 : HS ≤ D 0 1
        · rw [if_pos q2, if_neg (by omega)]
        · rw [if_neg q2, if_pos (by omega)]
    rw [hK, hK']
    by_cases q : D 0 0 < HP ∨ D 0 1 < HS
    · rw [if_pos q, if_pos q]
      have hB := Bk_up w 6 n (by omega) (by omega)
      refine ⟨up2 (up2 (up2 v 0 3 (nI 6)) 0 4 (nI n)) 0 1 0, (-10 : Int32) - nI n, ?_, up2_ss, .inl ⟨neg10 n (by omega), up2 (up2 (up2 (up2 w 0 21 (nI 6)) 0 22 (nI n)) 0 19 0) 0 20 (nI 6), ?_, by rw [up2_si (by decide), up2_si (by decide), up2_ss, up2_ss], by rw [up2_si (by decide), up2_ss]; rfl, fun r hr => by rw [up2_n hr, up2_n hr, up2_n hr, up2_n hr], fun j h19 h20 h21' h22 => by rw [up2_si h20, up2_si h19, up2_si h22, up2_si h21']⟩⟩
      · unfold m_X0_readText_J110
        dsimp only
        rw [h1, refuse_s, some_bind]
        exact hcl (Fc_up v 6 n) (by omega) (by omega)
      · unfold m_X6_text_J63
        dsimp only
        rw [show (6 : Int32) = nI 6 from rfl, fails_0 h21 h24, some_bind]
        exact hrf w hB
    · rw [if_neg q, if_neg q]
      obtain ⟨w5, p1, p2⟩ := L99_s (up2 (up2 w 0 19 0) 0 20 (nI 0))
      refine ⟨up2 v 0 1 0, nI k, ?_, up2_ss, .inr ⟨?_, by rw [up2_si (by decide)]; exact h3, D, w5, hR, WFd_m hW (by omega) (by omega) (by omega) (by omega), hD, p1, ?_, rfl⟩⟩
      · unfold m_X0_readText_J121
        dsimp only
        rw [lett_eq, if_pos (show up2 v 0 1 0 0 3 = 0 by rw [up2_si (by decide)]; exact h3)]
      · intro h
        have := (cast_lt (a := k) (b := 0) (by omega) (by decide)).mp h
        omega
      · unfold m_X6_text_J69
        simp only [lett_eq]
        rw [up2_si (show 21 ≠ 19 by decide), h21, if_pos (show up2 (up2 w 0 19 0) 0 20 (nI 0) 0 21 ≤ 0 by rw [up2_si (by decide), up2_si (by decide), h21]; decide), p1, some_bind]
