/-! ===== PURE: read, keep, back, count ===== -/
theorem rdJ2 : @m_X5_read_J54_2 = @m_X5_read_J54 := rfl
theorem rdJ3 : @m_X5_read_J54_3 = @m_X5_read_J54 := rfl
theorem rdJ4 : @m_X5_read_J54_4 = @m_X5_read_J54 := rfl
/-- a loop of the class that ends at once: a fault found ahead -/
theorem rdC_end (v0 v1 v z : SV) (F N : Int32) {tn c a : Int32} (h : ¬ tn = 0) : lpC (m_X5_read_L73 v0 v1 v F N) (tn, c, a, z) = some (.inl (tn, c, a, z)) := by
  refine lp_done ?_
  unfold m_X5_read_L73
  dsimp +instances only
  by_cases hle : N ≤ a
  · rw [if_pos hle]
  · rw [if_neg hle, if_neg h]
theorem rdR_end (w : SV) (K l F N : Int32) {tn c a : Int32} (h : ¬ tn = 0) : lpC (m_X6_read_L56 K l F N) (tn, c, a, w) = some (.inl (tn, c, a, w)) := by
  refine lp_done ?_
  unfold m_X6_read_L56
  dsimp +instances only
  by_cases hle : (2 : Int32) * N ≤ a
  · rw [if_pos hle]
  · rw [if_neg hle, if_neg h]
theorem rd_all (v0 v1 : SV) {v w y z : SV} {A : AS} {k l N : Nat} {F : Int32} (hk : k < 4) (hl : l < 3) (hN : N < 21) (hsh : ShR v w k) (hR : RepC z A) (hW : WF A) (hM : RM y 0 A) (h36 : y 36 = w 36) (h37 : y 37 = w 37) (h38 : y 38 = w 38) : ∃ z54, (if nI N = 0 then some (0 : Int32) else m_X2_faultAs v (nI l)) = some z54 ∧ ∃ rc rr, lpC (m_X5_read_L73 v0 v1 v F (nI N)) (z54, (0 : Int32), (0 : Int32), z) = some rc ∧ lpC (m_X6_read_L56 (nI k) (nI l) F (nI N)) ((0 : Int32), (0 : Int32), (0 : Int32), y) = some rr ∧ RdR A y v0 v1 rc rr := by
  by_cases hN0 : N = 0
  · subst hN0
    rw [if_pos (show nI 0 = (0 : Int32) from rfl)]
    refine ⟨0, rfl, .inl (0, 0, 0, z), .inl (0, 0, 0, y), lp_done ?_, lp_done ?_, .inl ⟨_, _, _, _, z, y, A, rfl, rfl, hR, hW, hM, SameS.rf, rfl, FrD.rf⟩⟩
    · unfold m_X5_read_L73
      dsimp +instances only
      rw [if_pos (show nI 0 ≤ (0 : Int32) from by decide)]
    · unfold m_X6_read_L56
      dsimp +instances only
      rw [if_pos (show (2 : Int32) * nI 0 ≤ (0 : Int32) from by decide)]
  · rw [if_neg (show ¬ nI N = (0 : Int32) from nI_ne0 (by omega) (by omega))]
    have hfin : ∀ tn : Int32, ¬ tn = 0 → m_X6_read_L56 (nI k) (nI l) F (nI N) ((0 : Int32), (0 : Int32), (0 : Int32), y) = some (.inl (tn, (0 : Int32), (0 : Int32) + (1 : Int32), y)) → ∃ rc rr, lpC (m_X5_read_L73 v0 v1 v F (nI N)) (tn, (0 : Int32), (0 : Int32), z) = some rc ∧ lpC (m_X6_read_L56 (nI k) (nI l) F (nI N)) ((0 : Int32), (0 : Int32), (0 : Int32), y) = some rr ∧ RdR A y v0 v1 rc rr := by
      intro tn htn hst
      exact ⟨_, _, rdC_end v0 v1 v z F (nI N) htn, by rw [lp_next hst]; exact rdR_end y (nI k) (nI l) F (nI N) htn, .inl ⟨_, _, _, _, z, y, A, rfl, rfl, hR, hW, hM, SameS.rf, rfl, FrD.rf⟩⟩
    have hcond : ¬ (2 : Int32) * nI N ≤ (0 : Int32) := by rw [li_2, pk_mul]; exact nI_nle (by omega) (by omega)
    unfold m_X2_faultAs
    rw [isThere_s hsh, some_bind]
    rcases hsh with ⟨g1, g2⟩ | ⟨l', n, g1, g2, g3, g4, g5, g6, g7⟩
    · rw [g2, if_pos (show bI (decide (¬ (-4 : Int32) = -4)) = 0 from rfl)]
      refine ⟨1, rfl, hfin 1 (by decide) ?_⟩
      unfold m_X6_read_L56
      dsimp +instances only
      rw [if_neg hcond, if_pos rfl, inB_nI hk (by omega), ck_true, nI_clamp (by omega), h36, g2, if_pos rfl]
      unfold m_X6_read_J126
      dsimp +instances only
      rw [if_neg (by decide)]
    · rw [g4, show decide (¬ nI l' = (-4 : Int32)) = true from decide_eq_true (m4_ne g1), if_neg (by decide), g3, ifp (cast_eq (by omega) (by omega))]
      by_cases hll : l = l'
      · rw [if_pos hll]
        subst hll
        refine ⟨0, rfl, ?_⟩
        by_cases hF : F < 0
        · have hst : m_X6_read_L56 (nI k) (nI l) F (nI N) ((0 : Int32), (0 : Int32), (0 : Int32), y) = some (.inl ((2 : Int32), (0 : Int32), (0 : Int32) + (1 : Int32), y)) := by
            unfold m_X6_read_L56
            dsimp +instances only
            rw [if_neg hcond, if_pos rfl, inB_nI hk (by omega), ck_true, nI_clamp (by omega), h36, g4, if_neg (m4_ne g1), ck_true, if_pos rfl, ck_true, h37, g6, show F.toInt64 + (0 : Int32).toInt64 = F.toInt64 from Int64.add_zero _, in_s (pred_64 (by omega)) (by omega), some_bind]
            have : ix F n = none := by
              unfold ix
              rw [Int32.lt_iff_toInt_lt, show (0 : Int32).toInt = 0 from rfl] at hF
              rw [if_neg (by omega)]
            rw [this, if_pos (show bI (Option.isSome (none : Option Nat)) = 0 from rfl)]
            unfold m_X6_read_J126
            dsimp +instances only
            rw [if_neg (by decide)]
          have hsc : m_X5_read_L73 v0 v1 v F (nI N) ((0 : Int32), (0 : Int32), (0 : Int32), z) = some (.inl ((2 : Int32), (0 : Int32), (0 : Int32) + (1 : Int32), z)) := by
            unfold m_X5_read_L73
            dsimp +instances only
            rw [if_neg (show ¬ nI N ≤ (0 : Int32) from nI_nle (by omega) (by omega)), if_pos rfl, show F + (2 : Int32) * (0 : Int32) = F from Int32.add_zero F]
            have : m_X2_hasCell v F = some 0 := by unfold m_X2_hasCell; rw [if_pos hF]
            rw [this, some_bind, if_pos rfl]
          exact ⟨_, _, by rw [lp_next hsc]; exact rdC_end v0 v1 v z F (nI N) (by decide), by rw [lp_next hst]; exact rdR_end y (nI k) (nI l) F (nI N) (by decide), .inl ⟨_, _, _, _, z, y, A, rfl, rfl, hR, hW, hM, SameS.rf, rfl, FrD.rf⟩⟩
        · obtain ⟨f, hf, rfl⟩ := nI_of hF
          exact rd_sim v0 v1 g1 g2 g5 hk hf (by omega) N 0 A z y (by omega) hR hW hM (by rw [h36, g4]) (by rw [h37, g6]) (fun i hi => by rw [h38]; exact g7 i hi)
      · rw [if_neg hll]
        refine ⟨3, rfl, hfin 3 (by decide) ?_⟩
        unfold m_X6_read_L56
        dsimp +instances only
        rw [if_neg hcond, if_pos rfl, inB_nI hk (by omega), ck_true, nI_clamp (by omega), h36, g4, if_neg (m4_ne g1), ck_true, if_neg (show ¬ nI l' = nI l from fun e => hll ((nI_eq (by omega) (by omega)).mp e).symm)]
        unfold m_X6_read_J126
        dsimp +instances only
        rw [if_neg (by decide)]
def FrRd (w w' : SV) : Prop := (∀ k, k ≠ 0 → k ≠ 50 → w' k = w k) ∧ (∀ j, j ≠ 39 → w' 0 j = w 0 j) ∧ ∀ i, 63 ≤ i → i < 189 → w' 50 i = w 50 i
theorem read_b {v0 v1 v2 w : SV} {V : Nat → SV} {A : AS} (hR : RepC v1 A) (hW : WF A) (hM : RM w 0 A) (hT : v0 0 10 = w 0 39) (h : ∀ k, k < 4 → ShR (V k) w k) (x1 x2 x3 x4 : Int32) : ∃ a v0' v1' v2' w' A', m_X5_read v0 v1 v2 (V 0) (V 1) (V 2) (V 3) x1 x2 x3 x4 = some (a, v0', v1', v2') ∧ m_X6_read w x1 x2 x3 x4 = some (a, w') ∧ RepC v1' A' ∧ WF A' ∧ RM w' 0 A' ∧ SameS A A' ∧ A' 0 = A 0 ∧ v0' 0 10 = w' 0 39 ∧ (∀ k, k ≠ 0 → v0' k = v0 k) ∧ FrRd w w' := by
  have hn := hW.1.n
  have hno : ∃ a v0' v1' v2' w' A', some ((-1 : Int32), v0, v1, v2) = some (a, v0', v1', v2') ∧ some ((-1 : Int32), w) = some (a, w') ∧ RepC v1' A' ∧ WF A' ∧ RM w' 0 A' ∧ SameS A A' ∧ A' 0 = A 0 ∧ v0' 0 10 = w' 0 39 ∧ (∀ k, k ≠ 0 → v0' k = v0 k) ∧ FrRd w w' := ⟨_, _, _, _, _, A, rfl, rfl, hR, hW, hM, SameS.rf, rfl, hT, fun _ _ => rfl, fun _ _ _ => rfl, fun _ _ => rfl, fun _ _ _ => rfl⟩
  unfold m_X5_read m_X6_read
  rw [within_s (k := 4) (by decide) (by omega), in_s (k := 4) (by decide) (by omega), within_s (k := 3) (by decide) (by omega), in_s (k := 3) (by decide) (by omega), within_s (k := 21) (by decide) (by omega), in_s (k := 21) (by decide) (by omega), some_bind, some_bind]
  cases hx : ix x1 4 with
  | none => exact hno
  | some k =>
    obtain ⟨rfl, hk⟩ := ix_some hx
    simp only [Option.isSome_some, bI, if_true, ne10, if_false, some_bind]
    cases hy : ix x2 3 with
    | none => exact hno
    | some l =>
      obtain ⟨rfl, hl⟩ := ix_some hy
      simp only [Option.isSome_some, if_true, ne10, if_false]
      cases hz : ix x4 21 with
      | none => exact hno
      | some N =>
        obtain ⟨rfl, hN⟩ := ix_some hz
        simp only [Option.isSome_some, if_true, ne10, if_false]
        obtain ⟨y, h4, h5, h6, h7, h8⟩ := tried_s hM hW.1 (b := 189) (by omega) (by omega)
        obtain ⟨vt, b1, b2⟩ := becomes_s v2 hR
        obtain ⟨z54, e54, rc, rr, r1, r2, r3⟩ := rd_all v0 v1 (F := x3) hk hl hN (h k hk) b2 hW h6 (h8 36 (by decide)) (h8 37 (by decide)) (h8 38 (by decide))
        have hJ : m_X5_read_J54 v0 v1 v2 (V k) x3 (nI N) z54 = (Sum.elim (m_X5_read_K73 v0 v1) (fun y => some y)) rc := by
          unfold m_X5_read_J54
          rw [b1, some_bind, r1, some_bind]
        have hcls : (if nI k = (0 : Int32) then (if nI N = 0 then m_X5_read_J54 v0 v1 v2 (V 0) x3 (nI N) (0 : Int32) else (m_X2_faultAs (V 0) (nI l)).bind (fun y51 => m_X5_read_J54 v0 v1 v2 (V 0) x3 (nI N) y51)) else (if nI k = (1 : Int32) then (if nI N = 0 then m_X5_read_J54_2 v0 v1 v2 (V 1) x3 (nI N) (0 : Int32) else (m_X2_faultAs (V 1) (nI l)).bind (fun y51 => m_X5_read_J54_2 v0 v1 v2 (V 1) x3 (nI N) y51)) else (if nI k = (2 : Int32) then (if nI N = 0 then m_X5_read_J54_3 v0 v1 v2 (V 2) x3 (nI N) (0 : Int32) else (m_X2_faultAs (V 2) (nI l)).bind (fun y51 => m_X5_read_J54_3 v0 v1 v2 (V 2) x3 (nI N) y51)) else (if nI k = (3 : Int32) then (if nI N = 0 then m_X5_read_J54_4 v0 v1 v2 (V 3) x3 (nI N) (0 : Int32) else (m_X2_faultAs (V 3) (nI l)).bind (fun y51 => m_X5_read_J54_4 v0 v1 v2 (V 3) x3 (nI N) y51)) else none)))) = (Sum.elim (m_X5_read_K73 v0 v1) (fun y => some y)) rc := by
          rw [rdJ2, rdJ3, rdJ4]
          have hgo : ∀ u : SV, u = V k → (if nI N = 0 then m_X5_read_J54 v0 v1 v2 u x3 (nI N) (0 : Int32) else (m_X2_faultAs u (nI l)).bind (fun y51 => m_X5_read_J54 v0 v1 v2 u x3 (nI N) y51)) = (Sum.elim (m_X5_read_K73 v0 v1) (fun y => some y)) rc := by
            intro u hu
            subst hu
            by_cases hN0 : nI N = 0
            · rw [if_pos hN0] at e54 ⊢
              cases e54
              exact hJ
            · rw [if_neg hN0] at e54 ⊢
              rw [e54, some_bind]
              exact hJ
          have : k = 0 ∨ k = 1 ∨ k = 2 ∨ k = 3 := by omega
          rcases this with rfl | rfl | rfl | rfl
          · rw [if_pos (show nI 0 = (0 : Int32) from rfl)]; exact hgo _ rfl
          · rw [if_neg (show ¬ nI 1 = (0 : Int32) from by decide), if_pos (show nI 1 = (1 : Int32) from rfl)]; exact hgo _ rfl
          · rw [if_neg (show ¬ nI 2 = (0 : Int32) from by decide), if_neg (show ¬ nI 2 = (1 : Int32) from by decide), if_pos (show nI 2 = (2 : Int32) from rfl)]; exact hgo _ rfl
          · rw [if_neg (show ¬ nI 3 = (0 : Int32) from by decide), if_neg (show ¬ nI 3 = (1 : Int32) from by decide), if_neg (show ¬ nI 3 = (2 : Int32) from by decide), if_pos (show nI 3 = (3 : Int32) from rfl)]; exact hgo _ rfl
        rw [hcls, show (189 : Int32) = nI 189 from rfl]
        rw [show m_X6_copies w (0 : Int32) (nI 189) = some y from h4, some_bind, r2, some_bind]
        rcases r3 with ⟨tn, c, a, b, zf, wf, Tf, q1, q2, q3, q4, q5, q6, q7, q8⟩ | ⟨a, zf, wf, q1, q2, q3, q4, q5⟩
        · subst q1 q2
          obtain ⟨v1', c1, c2⟩ := becomes_s v1 q3
          have hcl : (Sum.elim (m_X5_read_K73 v0 v1) (fun y => some y)) (.inl (tn, c, a, zf)) = some (c, up2 v0 0 10 tn, v1', zf) := by
            show m_X5_read_K73 v0 v1 (tn, c, a, zf) = _
            unfold m_X5_read_K73
            dsimp only
            rw [c1, some_bind, lett_eq]
          have hrf : (Sum.elim m_X6_read_K56 (fun y => some y)) (.inl (tn, c, b, wf)) = some (c, up2 wf 0 39 tn) := rfl
          refine ⟨c, up2 v0 0 10 tn, v1', zf, up2 wf 0 39 tn, Tf, hcl, hrf, c2, q4, RM_x q5 (fun j hj => by rw [up2_si (by omega)]) (up2_n (by decide)) (up2_n (by decide)) (up2_n (by decide)), q6, q7, by rw [up2_ss, up2_ss], fun k hk => up2_n hk, fun k k0 k50 => by rw [up2_n k0, q8.1 k k50, h8 k k50], fun j hj => by rw [up2_si hj, q8.1 0 (by decide), h8 0 (by decide)], fun i hi hi2 => by rw [up2_n (by decide), q8.2 i (by omega), h7.2.2 i hi2]⟩
        · subst q1 q2
          have e50 : ∀ i, i < 63 → wf 50 (0 + i) = y 50 (189 + i) := fun i hi => by rw [Nat.zero_add]; exact q4 i hi
          have hMf : RM wf 0 A := by
            refine ⟨RN_f h6.1 (q3 0 (by decide)) (q3 3 (by decide)) (q3 5 (by decide)), ?_, RP_f hW.1 h5.2.2 (fun i hi hi2 => e50 i hi2)⟩
            refine RS_f (a := 0) (w := w) ⟨by omega, by omega⟩ hM.2.1 (fun i hi => ?_)
            obtain ⟨w9, d1, d2, d3⟩ := copies_s w (a := 0) (b := 189) (by omega) (by omega) (by omega)
            have : y = w9 := by
              have := h4.symm.trans d1
              cases this
              rfl
            rw [e50 i (by omega), this, d3, if_pos (by omega), show 0 + (189 + i - 189) = 0 + i by omega]
          exact ⟨a, v0, v1, zf, wf, A, rfl, rfl, hR, hW, hMf, SameS.rf, rfl, by rw [hT, q3 0 (by decide), h8 0 (by decide)], fun _ _ => rfl, fun k k0 k50 => by rw [q3 k k50, h8 k k50], fun j hj => by rw [q3 0 (by decide), h8 0 (by decide)], fun i hi hi2 => by rw [q5 i hi, h7.2.2 i hi2]⟩
