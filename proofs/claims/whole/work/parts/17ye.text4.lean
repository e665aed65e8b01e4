/-! ===== PURE: text_b ===== -/
theorem RN_g {w w' : SV} {A : AS} (h : RN w A) (h0 : ∀ j, j < 10 → w' 0 j = w 0 j) (h3 : w' 3 = w 3) (h5 : w' 5 = w 5) : RN w' A := by
  unfold RN at h ⊢
  rw [h0 1 (by decide), h0 2 (by decide), h0 4 (by decide), h0 6 (by decide), h3, h5]
  exact h
theorem text_b {v0 v1 v3 v4 v5 v6 v7 v9 v10 v11 v12 w : SV} {A : AS} (hR : RepC v1 A) (hW : WF A) (hd : A 0 4 < 1000) (hM : RM w 0 A) (hO : Oth v0 v3 v4 v5 v7 v9 v10 v11 v12 w A) : ∃ a v0' v1' v5' v6' v7' w' A', m_X5_text v0 v1 v5 v6 v7 = some (a, v0', v1', v5', v6', v7') ∧ m_X6_text w = some (a, w') ∧ RepC v1' A' ∧ WF A' ∧ A' 0 4 < 1000 ∧ RM w' 0 A' ∧ Oth v0' v3 v4 v5' v7' v9 v10 v11 v12 w' A' := by
  have hn := hW.1.n
  obtain ⟨n, t, S, kp, o1, o2, o3, o4, o5, o6, o7, o8, o9, o10, o11, o12⟩ := hO
  obtain ⟨t1, t2, hn160, t4⟩ := o1
  have hb : ∀ j, (fun j => if j < n then t j else 0) j ≤ 127 := fun j => by
    dsimp only
    by_cases hj : j < n
    · rw [if_pos hj]; exact (t4 j hj).2.2
    · rw [if_neg hj]; omega
  have ht' : ∀ j, j < n → (fun j => if j < n then t j else 0) j = t j := fun j hj => if_pos hj
  generalize (fun j => if j < n then t j else 0) = t' at hb ht'
  obtain ⟨u0, cl1, cl2⟩ := clear_st v6
  obtain ⟨w1, b1, b2, b21, b23, b4, b5⟩ := begins_s w v6
  have hT : RT w n t' := ⟨t2, fun j hj => by rw [ht' j hj]; exact (t4 j hj).2.1⟩
  obtain ⟨w2, s1, s2, s3⟩ := step_s (t := t') (hT.x b2) hn160 hb (Nat.zero_le n) b21 b23
  have hF2 : FrX w w2 := b2.tr (FrX.k s3)
  unfold m_X5_text m_X0_readText
  rw [cl1, some_bind]
  simp only [lett_eq]
  generalize hv : up2 (up2 (up2 (up2 (up2 (up2 v5 0 3 (0 : Int32)) 0 7 (0 : Int32)) 0 9 (0 : Int32)) 0 10 (0 : Int32)) 0 11 (-4 : Int32)) 0 12 (-4 : Int32) = vS
  have hC : CT vS n t' 0 := by
    rw [← hv]
    refine ⟨by simp (disch := decide) only [up2_ss, up2_si]; exact t1, fun j hj => by simp (disch := decide) only [up2_n]; rw [ht' j hj]; exact (t4 j hj).1, by simp (disch := decide) only [up2_ss, up2_si]; rfl, Nat.zero_le n, by simp (disch := decide) only [up2_ss, up2_si]⟩
  have hH : HC vS 0 0 0 false := by
    rw [← hv]
    exact ⟨by simp (disch := decide) only [up2_ss, up2_si]; rfl, by simp (disch := decide) only [up2_ss, up2_si]; rfl, by simp (disch := decide) only [up2_ss, up2_si]; rfl, by simp (disch := decide) only [up2_ss, up2_si]; rfl⟩
  clear hv
  have hSy : Sy vS u0 w2 n t' 0 (stA v6) 0 0 0 false := ⟨hC, hH, cl2, WFd_st v6, by omega, s2, fun _ => ⟨RD_H b4 (FrH.of s3), HR_K b5 s3⟩⟩
  obtain ⟨c1, c2, v', u', w3, y1, y2, y3, y4⟩ := tx_loop hn160 hb (n + 1) 0 0 vS u0 w2 (stA v6) 0 0 0 false (by omega) (by omega) hSy (hT.x hF2) ((hF2.1 27 (by decide) (by decide) (by decide) (by decide)).trans o11) ((hF2.1 28 (by decide) (by decide) (by decide) (by decide)).trans o12)
  have hF3 : FrX w w3 := hF2.tr y3
  obtain ⟨v'', x, e1, e2, e3⟩ := tx_end hn160 y4
  rw [show lpC m_X0_readText_L41 ((0 : Int32), vS, u0) = some (c1, v', u') from y1, some_bind, e1, some_bind]
  unfold m_X6_text
  rw [b1, some_bind, s1, some_bind, show lpC m_X6_text_L10 ((0 : Int32), w2) = some (c2, w3) from y2, some_bind]
  dsimp only
  rcases e3 with ⟨hx, w', f1, f2, f3, f4, f5⟩ | ⟨hx, f2, D, w5, hRD, hWD, hD, f3, f4, rfl⟩
  · rw [if_pos hx, f1]
    have r0 : ∀ r, r ≠ 0 → r ≠ 7 → r ≠ 8 → r ≠ 9 → w' r = w r := fun r h0 h7 h8 h9 => (f4 r h0).trans (hF3.1 r h0 h7 h8 h9)
    have n0 : ∀ j, j < 10 ∨ 26 < j → w' 0 j = w 0 j := fun j hj => (f5 j (by omega) (by omega) (by omega) (by omega)).trans (hF3.2 j (by omega))
    have r50 := r0 50 (by decide) (by decide) (by decide) (by decide)
    have hSh : ∀ {v : SV} {k : Nat}, ShR v w k → ShR v w' k := fun h => ShR_f h (by rw [r0 36 (by omega) (by omega) (by omega) (by omega)]) (by rw [r0 37 (by omega) (by omega) (by omega) (by omega)]) (fun i _ => by rw [r0 38 (by omega) (by omega) (by omega) (by omega)])
    refine ⟨x, v0, v1, v'', u', v7, w', A, rfl, rfl, hR, hW, hd, ⟨RN_g hM.1 (fun j hj => n0 j (by omega)) (r0 3 (by decide) (by decide) (by decide) (by decide)) (r0 5 (by decide) (by decide) (by decide) (by decide)), RS_f ⟨by omega, by omega⟩ hM.2.1 (fun i _ => by rw [r50]), RP_f hW.1 hM.2.2 (fun i _ _ => by rw [r50])⟩, ?_⟩
    exact ⟨0, t, S, kp, ⟨e2, f3, by omega, fun i hi => by omega⟩, f2, RepN_f o3 (r0 31 (by decide) (by decide) (by decide) (by decide)) (n0 32 (by omega)) rfl, ImR_f (by omega) o4 rfl (by rw [r0 35 (by decide) (by decide) (by decide) (by decide)]) (fun i _ => by rw [r50]) CntS.rf, ImR_f (by omega) o5 rfl (by rw [r0 35 (by decide) (by decide) (by decide) (by decide)]) (fun i _ => by rw [r50]) CntS.rf, hSh o6, hSh o7, hSh o8, hSh o9, by rw [n0 39 (by omega)]; exact o10, by rw [r0 27 (by decide) (by decide) (by decide) (by decide)]; exact o11, by rw [r0 28 (by decide) (by decide) (by decide) (by decide)]; exact o12⟩
  · obtain ⟨v1', g1, g2⟩ := becomes_s v1 hRD
    rw [if_neg hx, g1, some_bind, L36_s, some_bind, f4]
    obtain ⟨w5', l1, l2, l3, l4, l5⟩ := L99_s (up2 (up2 w3 0 19 0) 0 20 (nI 0))
    rw [f3] at l1
    have hw5 : w5' = w5 := by
      have := Option.some.inj l1
      exact (Prod.mk.inj this).2.symm
    subst hw5
    unfold m_X6_text_K99
    simp only [lett_eq]
    rw [show Int32.toNatClampNeg (0 : Int32) = 0 from by decide, show Int32.toNatClampNeg (1 : Int32) = 1 from by decide, nar_0]
    generalize hWx : up2 (up2 (up2 (up2 (up2 (up2 (up2 w5' 0 1 (w5' 0 10)) 0 2 _) 0 4 _) 0 6 _) 0 32 _) 35 0 (0 : Int32)) 35 1 (0 : Int32) = W
    have e0 : ∀ j, w5' 0 j = up2 (up2 w3 0 19 0) 0 20 (nI 0) 0 j := fun j => by rw [l2 0 (by decide) (by decide) (by decide)]
    have n1 : W 0 1 = nI (D 0 0) := by rw [← hWx]; simp (disch := decide) only [up2_ss, up2_si, up2_n]; rw [e0]; simp (disch := decide) only [up2_ss, up2_si, up2_n]; exact hD.1.1
    have n2 : W 0 2 = nI (D 0 1) := by rw [← hWx]; simp (disch := decide) only [up2_ss, up2_si, up2_n]; rw [e0]; simp (disch := decide) only [up2_ss, up2_si, up2_n]; exact hD.1.2.1
    have n4 : W 0 4 = nI (D 0 2) := by rw [← hWx]; simp (disch := decide) only [up2_ss, up2_si, up2_n]; rw [e0]; simp (disch := decide) only [up2_ss, up2_si, up2_n]; exact hD.1.2.2.1
    have n6 : W 0 6 = nI (D 0 3) := by rw [← hWx]; simp (disch := decide) only [up2_ss, up2_si, up2_n]; rw [e0]; simp (disch := decide) only [up2_ss, up2_si, up2_n]; exact hD.1.2.2.2
    have n19 : W 0 19 = nI 0 := by rw [← hWx]; simp (disch := decide) only [up2_ss, up2_si, up2_n]; rw [e0]; simp (disch := decide) only [up2_ss, up2_si, up2_n]; rfl
    have n20 : W 0 20 = nI 0 := by rw [← hWx]; simp (disch := decide) only [up2_ss, up2_si, up2_n]; rw [e0]; simp (disch := decide) only [up2_ss, up2_si, up2_n]
    have n32 : W 0 32 = nI 0 := by rw [← hWx]; simp (disch := decide) only [up2_ss, up2_si, up2_n]; rfl
    have n39 : W 0 39 = w 0 39 := by rw [← hWx]; simp (disch := decide) only [up2_ss, up2_si, up2_n]; rw [e0]; simp (disch := decide) only [up2_ss, up2_si, up2_n]; exact hF3.2 39 (by omega)
    have k0 : W 35 0 = 0 := by rw [← hWx]; simp (disch := decide) only [up2_ss, up2_si, up2_n]
    have k1 : W 35 1 = 0 := by rw [← hWx]; simp (disch := decide) only [up2_ss, up2_si, up2_n]
    have rW : ∀ r, r ≠ 0 → r ≠ 35 → W r = w5' r := fun r h0 h35 => by rw [← hWx, up2_n h35, up2_n h35, up2_n h0, up2_n h0, up2_n h0, up2_n h0, up2_n h0]
    clear hWx
    have r50 : ∀ i, i < 63 → W 50 i = w3 7 i := fun i hi => by rw [rW 50 (by decide) (by decide), l3 i, if_pos hi, up2_n (by decide), up2_n (by decide)]
    have r3 : ∀ i, i < 10 → W 3 i = w3 8 i := fun i hi => by rw [rW 3 (by decide) (by decide), l4 i hi, up2_n (by decide), up2_n (by decide)]
    have r5 : ∀ i, i < 4 → W 5 i = w3 9 i := fun i hi => by rw [rW 5 (by decide) (by decide), l5 i hi, up2_n (by decide), up2_n (by decide)]
    have rO : ∀ r, r ≠ 0 → r ≠ 35 → r ≠ 50 → r ≠ 3 → r ≠ 5 → r ≠ 7 → r ≠ 8 → r ≠ 9 → W r = w r := fun r h0 h35 h50 h3 h5 h7 h8 h9 => by rw [rW r h0 h35, l2 r h50 h3 h5, up2_n h0, up2_n h0, hF3.1 r h0 h7 h8 h9]
    obtain ⟨a1, a2, a3, a4, a5⟩ := hWD
    have a1' := a1
    unfold WDn at a1
    obtain ⟨d1, d2, d3, d4, d5, d6⟩ := hD
    have hSh : ∀ {v : SV} {k : Nat}, ShR v w k → ShR v W k := fun h => ShR_f h (by rw [rO 36 (by omega) (by omega) (by omega) (by omega) (by omega) (by omega) (by omega) (by omega)]) (by rw [rO 37 (by omega) (by omega) (by omega) (by omega) (by omega) (by omega) (by omega) (by omega)]) (fun i _ => by rw [rO 38 (by omega) (by omega) (by omega) (by omega) (by omega) (by omega) (by omega) (by omega)])
    refine ⟨c2, up2 (up2 v0 4 0 0) 4 1 0, v1', v'', u', up2 v7 0 0 (0 : Int32), W, D, rfl, rfl, g2, ⟨WFd_b ⟨a1', a2, a3, a4, a5⟩, fun p hp k hk => (a2 p hp).2.2.2 k hk, a4⟩, by omega, ⟨⟨n1, n2, n4, n6, fun b hb' => ?_, fun f hf => ?_⟩, ⟨fun p hp => ?_, fun s hs => ?_⟩, fun p hp => ?_, fun p hp k hk => ?_, fun s hs => ?_, ?_, ?_⟩, ?_⟩
    · rw [r3 _ (by omega), r3 _ (by omega)]; exact d5 b hb'
    · rw [r5 _ (by omega)]; exact d6 f hf
    · rw [Nat.zero_add, r50 _ (by omega)]; exact (d2 p (by omega)).1
    · rw [Nat.zero_add, Nat.zero_add, Nat.zero_add, r50 _ (by omega), r50 _ (by omega), r50 _ (by omega)]
      exact ⟨(d3 s hs).1, (d3 s hs).2.1, (d3 s hs).2.2.1⟩
    · rw [show 0 + 6 + p = 6 + p by omega, r50 _ (by omega)]; exact (d2 p (by omega)).2.1
    · have := (a2 p (by omega)).2.1
      rw [show 0 + 12 + 4 * p + k = 12 + (4 * p + k) by omega, r50 _ (by omega)]; exact (d2 p (by omega)).2.2 k hk
    · rw [show 0 + 51 + s = 51 + s by omega, show 0 + 56 + s = 56 + s by omega, r50 _ (by omega), r50 _ (by omega), (a3 s hs).2.2.2.2]
      exact ⟨(d3 s hs).2.2.2, d4.1 s (by omega)⟩
    · rw [r50 _ (by omega), a1.2.2.2.2.2.1]; exact d4.2.1
    · rw [r50 _ (by omega), a1.2.2.2.2.2.2.1]; exact d4.2.2
    · refine ⟨0, t, (fun _ _ => 0), (fun _ => false), ⟨e2, n19, by omega, fun i hi => by omega⟩, by rw [f2, n20]; rfl, ⟨up2_ss, n32, Nat.zero_le 6, fun k hk => absurd hk (Nat.not_lt_zero k)⟩, ⟨by rw [up2_si (by decide), up2_ss]; rfl, k0, fun h => absurd h (by decide)⟩, ⟨by rw [up2_ss]; rfl, k1, fun h => absurd h (by decide)⟩, hSh o6, hSh o7, hSh o8, hSh o9, by rw [n39, up2_n (by decide), up2_n (by decide)]; exact o10, by rw [rO 27 (by decide) (by decide) (by decide) (by decide) (by decide) (by decide) (by decide) (by decide)]; exact o11, by rw [rO 28 (by decide) (by decide) (by decide) (by decide) (by decide) (by decide) (by decide) (by decide)]; exact o12⟩
