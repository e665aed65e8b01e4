/-! ===== PURE: the operation text ===== -/
def zr7 (w : SV) (k : Nat) : SV := fun r => if r = 7 then (fun i => if i < k then 0 else w 7 i) else w r
theorem begins_s (w : SV) (u : SV) : ∃ w', m_X6_begins w = some w' ∧ FrX w w' ∧ w' 0 21 = nI 0 ∧ w' 0 23 = nI 0 ∧ RD w' (stA u) ∧ HR w' 0 0 0 false := by
  unfold m_X6_begins
  simp only [lett_eq]
  generalize hx : up2 (up2 (up2 (up2 (up2 (up2 (up2 (up2 (up2 (up2 w 0 21 (0 : Int32)) 0 23 (0 : Int32)) 0 10 (4 : Int32)) 0 11 (0 : Int32)) 0 12 (0 : Int32)) 0 13 (0 : Int32)) 0 14 (0 : Int32)) 0 15 (0 : Int32)) 0 16 (-1 : Int32)) 0 17 (-1 : Int32) = x
  have hF : FrX w x := by
    rw [← hx]
    exact (((((((((FrX.up (by omega)).tr (FrX.up (by omega))).tr (FrX.up (by omega))).tr (FrX.up (by omega))).tr (FrX.up (by omega))).tr (FrX.up (by omega))).tr (FrX.up (by omega))).tr (FrX.up (by omega))).tr (FrX.up (by omega))).tr (FrX.up (by omega))
  have n21 : x 0 21 = nI 0 := by rw [← hx]; simp (disch := decide) only [up2_ss, up2_si]; rfl
  have n23 : x 0 23 = nI 0 := by rw [← hx]; simp (disch := decide) only [up2_ss, up2_si]; rfl
  have n10 : x 0 10 = nI 4 := by rw [← hx]; simp (disch := decide) only [up2_ss, up2_si]; rfl
  have n11 : x 0 11 = nI 0 := by rw [← hx]; simp (disch := decide) only [up2_ss, up2_si]; rfl
  have n12 : x 0 12 = nI 0 := by rw [← hx]; simp (disch := decide) only [up2_ss, up2_si]; rfl
  have n13 : x 0 13 = nI 0 := by rw [← hx]; simp (disch := decide) only [up2_ss, up2_si]; rfl
  have n14 : x 0 14 = bI false := by rw [← hx]; simp (disch := decide) only [up2_ss, up2_si]; rfl
  have n15 : x 0 15 = nI 0 := by rw [← hx]; simp (disch := decide) only [up2_ss, up2_si]; rfl
  have n16 : x 0 16 = nI 0 + (-1) := by rw [← hx]; simp (disch := decide) only [up2_ss, up2_si]; rfl
  have n17 : x 0 17 = nI 0 + (-1) := by rw [← hx, up2_ss]; rfl
  have h0 : zr7 x 0 = x := by
    funext r
    unfold zr7
    by_cases hr : r = 7
    · subst hr; rw [if_pos rfl]; funext i; rw [if_neg (by omega)]
    · rw [if_neg hr]
  have hlp : lpC m_X6_begins_L52 ((0 : Int32), x) = some (nI 63, zr7 x 63) := by
    rw [show ((0 : Int32), x) = (nI 0, zr7 x 0) from by rw [h0]; rfl]
    refine lp_run (fun k => (nI k, zr7 x k)) 63 (fun k hk => ?_) ?_
    · unfold m_X6_begins_L52
      dsimp only
      rw [if_neg (show ¬ (63 : Int32) ≤ nI k from fun h => by
        have := (cast_le (a := 63) (b := k) (by decide) (by omega)).mp h
        omega), inB_nI hk (by decide), ck_true, nI_clamp (by omega), lett_eq, i1]
      have : up2 (zr7 x k) 7 k 0 = zr7 x (k + 1) := by
        funext r i
        by_cases hr : r = 7
        · subst hr
          by_cases hi : i = k
          · subst hi; rw [up2_ss]; unfold zr7; rw [if_pos rfl, if_pos (by omega)]
          · rw [up2_si hi]; unfold zr7; rw [if_pos rfl, if_pos rfl]
            by_cases hi2 : i < k
            · rw [if_pos hi2, if_pos (by omega)]
            · rw [if_neg hi2, if_neg (by omega)]
        · rw [up2_n hr]; unfold zr7; rw [if_neg hr, if_neg hr]
      rw [this]
    · unfold m_X6_begins_L52
      dsimp only
      rw [if_pos (show (63 : Int32) ≤ nI 63 by decide)]
  rw [hlp, some_bind]
  have e0 : zr7 x 63 0 = x 0 := by unfold zr7; rw [if_neg (by decide)]
  have e7 : ∀ i, i < 63 → zr7 x 63 7 i = nI 0 := fun i hi => by unfold zr7; rw [if_pos rfl, if_pos hi]; rfl
  refine ⟨zr7 x 63, rfl, hF.tr ⟨fun k k0 k7 _ _ => by unfold zr7; rw [if_neg k7], fun j _ => by rw [e0]⟩, by rw [e0]; exact n21, by rw [e0]; exact n23, ?_, ⟨by rw [e0]; exact n14, by rw [e0]; exact n15, by rw [e0]; exact n16, by rw [e0]; exact n17⟩⟩
  refine ⟨⟨by rw [e0]; exact n10, by rw [e0]; exact n11, by rw [e0]; exact n12, by rw [e0]; exact n13⟩, fun p hp => ⟨by rw [e7 p (by omega)]; rfl, by rw [e7 _ (by omega)]; rfl, fun k hk => absurd hk (by show ¬ k < 0; omega)⟩, fun s hs => absurd hs (by show ¬ s < 0; omega), ⟨fun s hs => e7 _ (by omega), e7 61 (by omega), e7 62 (by omega)⟩, fun b hb => absurd hb (by show ¬ b < 0; omega), fun f hf => absurd hf (by show ¬ f < 0; omega)⟩
theorem md10 : ∀ k, k < 63 → nI k - nI k / (10 : Int32) * (10 : Int32) = nI (k % 10) := by decide +kernel
theorem md4 : ∀ k, k < 63 → nI k - nI k / (4 : Int32) * (4 : Int32) = nI (k % 4) := by decide +kernel
theorem L99_s (w : SV) : ∃ w', lpC m_X6_text_L99 ((0 : Int32), w) = some (nI 63, w') ∧ (∀ r, r ≠ 50 → r ≠ 3 → r ≠ 5 → w' r = w r) ∧ (∀ i, w' 50 i = if i < 63 then w 7 i else w 50 i) ∧ (∀ i, i < 10 → w' 3 i = w 8 i) ∧ ∀ i, i < 4 → w' 5 i = w 9 i := by
  have h := lp_inv (step := m_X6_text_L99) (fun k z => z.1 = nI k ∧ (∀ r, r ≠ 50 → r ≠ 3 → r ≠ 5 → z.2 r = w r) ∧ (∀ i, z.2 50 i = if i < k then w 7 i else w 50 i) ∧ (∀ i, i < 10 → i < k → z.2 3 i = w 8 i) ∧ ∀ i, i < 4 → i < k → z.2 5 i = w 9 i) (fun r => r.1 = nI 63 ∧ (∀ k, k ≠ 50 → k ≠ 3 → k ≠ 5 → r.2 k = w k) ∧ (∀ i, r.2 50 i = if i < 63 then w 7 i else w 50 i) ∧ (∀ i, i < 10 → r.2 3 i = w 8 i) ∧ ∀ i, i < 4 → r.2 5 i = w 9 i) 63 (fun k z hk hI => ?_) (fun z hI => ?_) (s0 := ((0 : Int32), w)) ⟨rfl, fun _ _ _ _ => rfl, fun i => by rw [if_neg (by omega)], fun i _ h => by omega, fun i _ h => by omega⟩
  · obtain ⟨⟨x, w'⟩, r1, r2, r3⟩ := h
    dsimp only at r2 r3
    subst r2
    exact ⟨w', r1, r3⟩
  · obtain ⟨x, y⟩ := z
    obtain ⟨rfl, i1', i50, i3, i5⟩ := hI
    dsimp only at *
    have m10 := Nat.mod_lt k (show 10 > 0 by decide)
    have m4 := Nat.mod_lt k (show 4 > 0 by decide)
    refine .inl ⟨(nI (k + 1), up2 (up2 (up2 y 50 k (w 7 k)) 3 (k % 10) (w 8 (k % 10))) 5 (k % 4) (w 9 (k % 4))), ?_, rfl, fun r h50 h3 h5 => ?_, fun i => ?_, fun i hi hik => ?_, fun i hi hik => ?_⟩
    · unfold m_X6_text_L99
      dsimp only
      rw [if_neg (show ¬ (63 : Int32) ≤ nI k from fun h => by
        have := (cast_le (a := 63) (b := k) (by decide) (by omega)).mp h
        omega)]
      simp (disch := omega) only [md10 k hk, md4 k hk, inB_nI, ck_true, nI_clamp, lett_eq, i1]
      rw [up2_n (show 9 ≠ 3 by decide), up2_n (show 9 ≠ 50 by decide), up2_n (show 8 ≠ 50 by decide), i1' 7 (by decide) (by decide) (by decide), i1' 8 (by decide) (by decide) (by decide), i1' 9 (by decide) (by decide) (by decide)]
    · dsimp only
      rw [up2_n h5, up2_n h3, up2_n h50]
      exact i1' r h50 h3 h5
    · dsimp only
      rw [up2_n (show 50 ≠ 5 by decide), up2_n (show 50 ≠ 3 by decide)]
      by_cases hik : i = k
      · rw [hik, up2_ss, if_pos (by omega)]
      · rw [up2_si hik, i50 i]
        by_cases hi2 : i < k
        · rw [if_pos hi2, if_pos (by omega)]
        · rw [if_neg hi2, if_neg (by omega)]
    · dsimp only
      rw [up2_n (show 3 ≠ 5 by decide)]
      by_cases hm : i = k % 10
      · rw [hm, up2_ss]
      · rw [up2_si hm, up2_n (show 3 ≠ 50 by decide)]
        exact i3 i hi (by
          have : i ≠ k := fun e => by
            rw [e] at hi hm
            exact hm (Nat.mod_eq_of_lt hi).symm
          omega)
    · dsimp only
      by_cases hm : i = k % 4
      · rw [hm, up2_ss]
      · rw [up2_si hm, up2_n (show 5 ≠ 3 by decide), up2_n (show 5 ≠ 50 by decide)]
        exact i5 i hi (by
          have : i ≠ k := fun e => by
            rw [e] at hi hm
            exact hm (Nat.mod_eq_of_lt hi).symm
          omega)
  · obtain ⟨x, y⟩ := z
    obtain ⟨rfl, i1', i50, i3, i5⟩ := hI
    dsimp only at *
    refine ⟨(nI 63, y), ?_, rfl, i1', i50, fun i hi => i3 i hi (by omega), fun i hi => i5 i hi (by omega)⟩
    unfold m_X6_text_L99
    dsimp only
    rw [if_pos (show (63 : Int32) ≤ nI 63 by decide)]
theorem L36_s (v : SV) : lpC m_X5_text_L36 ((0 : Int32), v) = some (nI 2, up2 (up2 v 4 0 0) 4 1 0) := by
  have h : ∀ k z, k < 2 → m_X5_text_L36 (nI k, z) = some (.inl (nI (k + 1), up2 z 4 k 0)) := fun k z hk => by
    unfold m_X5_text_L36
    dsimp only
    rw [if_neg (show ¬ (2 : Int32) ≤ nI k from fun h => by
      have := (cast_le (a := 2) (b := k) (by decide) (by omega)).mp h
      omega), inB_nI hk (by decide), ck_true, nI_clamp (by omega), lett_eq, i1, nar_0]
  rw [show ((0 : Int32), v) = (nI 0, v) from rfl, lp_next (h 0 v (by omega)), lp_next (h 1 _ (by omega))]
  apply lp_done
  unfold m_X5_text_L36
  dsimp only
  rw [if_pos (show (2 : Int32) ≤ nI 2 by decide)]
