/-! ===== PURE: the law ===== -/
theorem vx_0 {j : Nat} (hj : j ≠ 1) : v_X6 0 j = nI 0 := by
  unfold v_X6
  rw [upr_n (by decide), upr_n (by decide), upr_n (by decide), up2_si hj]
  rfl
theorem vx_1 : v_X6 0 1 = nI 4 := by
  unfold v_X6
  rw [upr_n (by decide), upr_n (by decide), upr_n (by decide), up2_ss]
  rfl
theorem vx_r {r i : Nat} (h0 : r ≠ 0) (h27 : r ≠ 27) (h28 : r ≠ 28) (h36 : r ≠ 36) : v_X6 r i = nI 0 := by
  unfold v_X6
  rw [upr_n h36, upr_n h28, upr_n h27, up2_n h0]
  rfl
theorem vx_36 : ∀ k, k < 4 → v_X6 36 k = -4 := by decide +kernel
theorem law_pure (L : Nat) (xs : Nat → Int32) (hL : L ≤ 320) : ∃ rs, m_X3_clear z0 = some rs ∧ m_L_law L xs rs = some (1 : Int32) := by
  obtain ⟨rs, c1, c2⟩ := clear_st z0
  refine ⟨rs, c1, ?_⟩
  have hd := WFd_st z0
  have h50 : ∀ i, v_X6 50 i = nI 0 := fun i => vx_r (by decide) (by decide) (by decide) (by decide)
  have h35 : ∀ i, v_X6 35 i = nI 0 := fun i => vx_r (by decide) (by decide) (by decide) (by decide)
  have h0 : Rel2 (G0 rs) v_X6 := by
    refine ⟨rfl, stA z0, c2, ⟨WFd_b hd, fun p hp k hk => absurd hk (by show ¬ k < 0; omega), fun b hb => absurd hb (by show ¬ b < 0; omega)⟩, by show (0 : Nat) < 1000; decide, ⟨⟨vx_1, vx_0 (by decide), vx_0 (by decide), vx_0 (by decide), fun b hb => absurd hb (by show ¬ b < 0; omega), fun f hf => absurd hf (by show ¬ f < 0; omega)⟩, ⟨fun p hp => by rw [h50]; rfl, fun s hs => absurd hs (by show ¬ s < 0; omega)⟩, fun p hp => by rw [h50]; rfl, fun p hp k hk => absurd hk (by show ¬ k < 0; omega), fun s hs => absurd hs (by show ¬ s < 0; omega), by rw [h50]; rfl, by rw [h50]; rfl⟩, 0, (fun _ => 0), (fun _ _ => 0), (fun _ => false), ⟨rfl, vx_0 (by decide), by decide, fun i hi => absurd hi (Nat.not_lt_zero i)⟩, (vx_0 (j := 20) (by decide)).symm, ⟨rfl, vx_0 (by decide), by decide, fun k hk => absurd hk (Nat.not_lt_zero k)⟩, ⟨rfl, h35 0, fun h => absurd h (by decide)⟩, ⟨rfl, h35 1, fun h => absurd h (by decide)⟩, .inl ⟨rfl, vx_36 0 (by decide)⟩, .inl ⟨rfl, vx_36 1 (by decide)⟩, .inl ⟨rfl, vx_36 2 (by decide)⟩, .inl ⟨rfl, vx_36 3 (by decide)⟩, (vx_0 (j := 39) (by decide)).symm, rfl, rfl⟩
  have hlp := lp_inv (step := m_L_law_L18 L xs) (fun k z => z.1 = nI (5 * k) ∧ Rel2 z.2.1 z.2.2) (fun r => ∃ z, r = Sum.inl z) 64 (fun k z hk hI => ?_) (fun z hI => ?_) (s0 := ((0 : Int32), G0 rs, v_X6)) ⟨rfl, h0⟩
  · obtain ⟨r, e1, z, rfl⟩ := hlp
    unfold m_L_law
    rw [e1, some_bind]
    rfl
  · obtain ⟨x, G, w⟩ := z
    obtain ⟨rfl, hR⟩ := hI
    by_cases hl : 5 * k + 5 ≤ L
    · obtain ⟨G', w', g1, g2⟩ := law_step hL hl hR (xs := xs)
      exact .inl ⟨_, g1, by show nI (5 * k + 5) = nI (5 * (k + 1)); rw [show 5 * (k + 1) = 5 * k + 5 by omega], g2⟩
    · refine .inr ⟨_, ?_, (nI (5 * k), G, w), rfl⟩
      unfold m_L_law_L18
      dsimp only
      rw [if_pos ((lim_s (i := 5 * k) hL (by omega)).mpr (by omega))]
  · obtain ⟨x, G, w⟩ := z
    obtain ⟨rfl, hR⟩ := hI
    refine ⟨_, ?_, (nI (5 * 64), G, w), rfl⟩
    unfold m_L_law_L18
    dsimp only
    rw [if_pos ((lim_s (i := 5 * 64) hL (by omega)).mpr (by omega))]
