/-! ===== PURE: lay, read, keep, back, count: both sides ===== -/
def cvL (l : Nat) (x : Int32) : Int32 := if l = 0 then x.toInt8.toInt32 else if l = 1 then x.toInt16.toInt32 else x
theorem hasCell_x {v : SV} {n : Nat} (h : v 0 1 = nI n) (hn : n ≤ 40) (x : Int32) : m_X2_hasCell v x = some (bI (ix x n).isSome) := by
  unfold m_X2_hasCell
  rw [h]
  cases hi : ix x n with
  | some p =>
    obtain ⟨rfl, hp⟩ := ix_some hi
    rw [if_neg (nI_pos (by omega)), if_neg (nI_ge hp (by omega))]
    rfl
  | none =>
    rcases ix_none hi (by omega) with h | h
    · rw [if_pos h]; rfl
    · by_cases h1 : x < 0
      · rw [if_pos h1]; rfl
      · rw [if_neg h1, if_pos h]; rfl
theorem ix_big {m n : Nat} (hm : m < 2 ^ 32) (hn : n ≤ 40) : (ix (nI m) n).isSome = decide (m < n) := by
  by_cases h : m < n
  · rw [ix_nI h (by omega)]; simp [h]
  · rw [decide_eq_false h]
    cases hi : ix (nI m) n with
    | none => rfl
    | some p =>
      obtain ⟨e, hp⟩ := ix_some hi
      have h1 : (nI m).toBitVec.toNat = m := pk_tn hm
      rw [e, pk_tn (by omega)] at h1
      omega
theorem write_s {v : SV} {l i : Nat} (h : v 0 0 = nI l) (hl : l ≤ 2) (hi : i < 40) (x : Int32) : ∃ v', m_X2_write v (nI i) x = some v' ∧ v' 0 = v 0 ∧ ∀ j, v' 2 j = if j = i then cvL l x else v 2 j := by
  unfold m_X2_write cvL
  rw [h, inB_nI hi (by omega), ck_true, ck_true, ck_true, nI_clamp (by omega)]
  simp only [lett_eq]
  rw [ifp (show (nI l = (0 : Int32)) = (l = 0) from cast_eq (b := 0) (by omega) (by omega)), ifp (show (nI l = (1 : Int32)) = (l = 1) from cast_eq (b := 1) (by omega) (by omega))]
  by_cases h0 : l = 0
  · rw [if_pos h0]
    refine ⟨_, rfl, up2_n (by decide), fun j => ?_⟩
    rw [up2_v, if_pos h0]
  · rw [if_neg h0]
    by_cases h1 : l = 1
    · rw [if_pos h1]
      refine ⟨_, rfl, up2_n (by decide), fun j => ?_⟩
      rw [up2_v, if_neg h0, if_pos h1]
    · rw [if_neg h1]
      refine ⟨_, rfl, up2_n (by decide), fun j => ?_⟩
      rw [up2_v, if_neg h0, if_neg h1]
theorem m4_ne {l : Nat} (hl : l ≤ 2) : ¬ nI l = (-4 : Int32) := by
  intro e
  have := congrArg Int32.toInt e
  rw [nI_toInt (by omega), show (-4 : Int32).toInt = -4 from rfl] at this
  omega
theorem m1_ne {l : Nat} (hl : l ≤ 40) : ¬ nI l = (-1 : Int32) := by
  intro e
  have := congrArg Int32.toInt e
  rw [nI_toInt (by omega), show (-1 : Int32).toInt = -1 from rfl] at this
  omega
noncomputable def layC (v : SV) (x2 x3 : Int32) : Option (Int32 × SV) := (m_X2_isThere v).bind (fun y21 => (if y21 = 0 then some ((-11 : Int32), v) else (m_X2_hasCell v x2).bind (fun y33 => (if y33 = 0 then some ((-12 : Int32), v) else (m_X2_write v x2 x3).bind (fun y46 => some ((1 : Int32), y46))))))
theorem layC_0 (v0 : SV) (V : Nat → SV) (x2 x3 : Int32) : m_X5_lay v0 (V 0) (V 1) (V 2) (V 3) (nI 0) x2 x3 = (layC (V 0) x2 x3).bind (fun r => some (r.1, r.2, V 1, V 2, V 3)) := by
  unfold m_X5_lay layC
  rw [within_s (k := 4) (by decide) (by omega), some_bind, ix_nI (by omega) (by omega), Option.isSome_some, if_neg (by decide), if_pos (by decide)]
  cases m_X2_isThere (V 0) with
  | none => rfl
  | some a =>
    simp only [some_bind]
    split
    · rfl
    · cases m_X2_hasCell (V 0) x2 with
      | none => rfl
      | some b =>
        simp only [some_bind]
        split
        · rfl
        · cases m_X2_write (V 0) x2 x3 <;> rfl
theorem layC_1 (v0 : SV) (V : Nat → SV) (x2 x3 : Int32) : m_X5_lay v0 (V 0) (V 1) (V 2) (V 3) (nI 1) x2 x3 = (layC (V 1) x2 x3).bind (fun r => some (r.1, V 0, r.2, V 2, V 3)) := by
  unfold m_X5_lay layC
  rw [within_s (k := 4) (by decide) (by omega), some_bind, ix_nI (by omega) (by omega), Option.isSome_some, if_neg (by decide), if_neg (by decide), if_pos (by decide)]
  cases m_X2_isThere (V 1) with
  | none => rfl
  | some a =>
    simp only [some_bind]
    split
    · rfl
    · cases m_X2_hasCell (V 1) x2 with
      | none => rfl
      | some b =>
        simp only [some_bind]
        split
        · rfl
        · cases m_X2_write (V 1) x2 x3 <;> rfl
theorem layC_2 (v0 : SV) (V : Nat → SV) (x2 x3 : Int32) : m_X5_lay v0 (V 0) (V 1) (V 2) (V 3) (nI 2) x2 x3 = (layC (V 2) x2 x3).bind (fun r => some (r.1, V 0, V 1, r.2, V 3)) := by
  unfold m_X5_lay layC
  rw [within_s (k := 4) (by decide) (by omega), some_bind, ix_nI (by omega) (by omega), Option.isSome_some, if_neg (by decide), if_neg (by decide), if_neg (by decide), if_pos (by decide)]
  cases m_X2_isThere (V 2) with
  | none => rfl
  | some a =>
    simp only [some_bind]
    split
    · rfl
    · cases m_X2_hasCell (V 2) x2 with
      | none => rfl
      | some b =>
        simp only [some_bind]
        split
        · rfl
        · cases m_X2_write (V 2) x2 x3 <;> rfl
theorem layC_3 (v0 : SV) (V : Nat → SV) (x2 x3 : Int32) : m_X5_lay v0 (V 0) (V 1) (V 2) (V 3) (nI 3) x2 x3 = (layC (V 3) x2 x3).bind (fun r => some (r.1, V 0, V 1, V 2, r.2)) := by
  unfold m_X5_lay layC
  rw [within_s (k := 4) (by decide) (by omega), some_bind, ix_nI (by omega) (by omega), Option.isSome_some, if_neg (by decide), if_neg (by decide), if_neg (by decide), if_neg (by decide), if_pos (by decide)]
  cases m_X2_isThere (V 3) with
  | none => rfl
  | some a =>
    simp only [some_bind]
    split
    · rfl
    · cases m_X2_hasCell (V 3) x2 with
      | none => rfl
      | some b =>
        simp only [some_bind]
        split
        · rfl
        · cases m_X2_write (V 3) x2 x3 <;> rfl
theorem lay_1 {v w : SV} {k : Nat} (hk : k < 4) (h : ShR v w k) (x2 x3 : Int32) : ∃ a v' w', layC v x2 x3 = some (a, v') ∧ m_X6_lay w (nI k) x2 x3 = some (a, w') ∧ ShR v' w' k ∧ (∀ r, r ≠ 38 → w' r = w r) ∧ ∀ i, (i < 40 * k ∨ 40 * k + 40 ≤ i) → w' 38 i = w 38 i := by
  unfold layC m_X6_lay
  rw [in_s (k := 4) (by decide) (by omega), some_bind, ix_nI hk (by omega), Option.isSome_some, show bI true = 1 from rfl, if_neg (by decide), inB_nI hk (by omega)]
  simp only [ck_true]
  rw [nI_clamp (by omega), isThere_s h, some_bind]
  have hold := h
  rcases h with ⟨h1, h2⟩ | ⟨l, n, h1, h2, h3, h4, h5, h6, h7⟩
  · rw [h2, if_pos rfl]
    exact ⟨_, _, _, rfl, rfl, hold, fun _ _ => rfl, fun _ _ => rfl⟩
  · rw [show decide (¬ w 36 k = -4) = true from decide_eq_true (by rw [h4]; exact m4_ne h1), show bI true = 1 from rfl, if_neg (by decide), h4, if_neg (m4_ne h1), hasCell_x h5 h2, some_bind, h6, in_s (pred_64 (by omega)) (by omega), some_bind]
    cases hx : ix x2 n with
    | none => exact ⟨_, _, _, rfl, rfl, hold, fun _ _ => rfl, fun _ _ => rfl⟩
    | some i =>
      obtain ⟨rfl, hi⟩ := ix_some hx
      simp only [Option.isSome_some, show bI true = 1 from rfl, ne10, if_false]
      obtain ⟨v', g1, g2, g3⟩ := write_s h3 h1 (show i < 40 by omega) x3
      rw [g1, some_bind, show (40 : Int32) = nI 40 from rfl, pk_mul, nI_add, inB_nI (by omega) (by omega)]
      simp only [ck_true, lett_eq]
      rw [nI_clamp (by omega), ifp (show (nI l = (0 : Int32)) = (l = 0) from cast_eq (b := 0) (by omega) (by omega)), ifp (show (nI l = (1 : Int32)) = (l = 1) from cast_eq (b := 1) (by omega) (by omega)), shB, shS]
      have e : (if l = 0 then some ((1 : Int32), up2 w 38 (40 * k + i) x3.toInt8.toInt32) else if l = 1 then some ((1 : Int32), up2 w 38 (40 * k + i) x3.toInt16.toInt32) else some ((1 : Int32), up2 w 38 (40 * k + i) x3)) = some ((1 : Int32), up2 w 38 (40 * k + i) (cvL l x3)) := by
        unfold cvL
        split
        · rfl
        · split <;> rfl
      rw [e]
      refine ⟨_, _, _, rfl, rfl, .inr ⟨l, n, h1, h2, by rw [g2, h3], by rw [up2_n (by decide), h4], by rw [g2, h5], by rw [up2_n (by decide), h6], fun j hj => ?_⟩, fun r hr => up2_n hr, fun j hj => up2_si (by omega)⟩
      rw [g3, up2_v]
      by_cases hji : j = i
      · subst hji; rw [if_pos rfl, if_pos rfl]
      · rw [if_neg hji, if_neg (by omega)]; exact h7 j hj
theorem lay_b (v0 : SV) {V : Nat → SV} {w : SV} (h : ∀ k, k < 4 → ShR (V k) w k) (x1 x2 x3 : Int32) : ∃ a, ∃ V' : Nat → SV, ∃ w', m_X5_lay v0 (V 0) (V 1) (V 2) (V 3) x1 x2 x3 = some (a, V' 0, V' 1, V' 2, V' 3) ∧ m_X6_lay w x1 x2 x3 = some (a, w') ∧ (∀ k, k < 4 → ShR (V' k) w' k) ∧ FrR w w' [36, 37, 38] [] := by
  cases hx : ix x1 4 with
  | none =>
    unfold m_X5_lay m_X6_lay
    rw [within_s (k := 4) (by decide) (by omega), in_s (k := 4) (by decide) (by omega), some_bind, some_bind, hx]
    exact ⟨_, V, w, rfl, rfl, h, FrR.rf⟩
  | some k =>
    obtain ⟨rfl, hk⟩ := ix_some hx
    obtain ⟨a, v', w', g1, g2, g3, g4, g5⟩ := lay_1 hk (h k hk) x2 x3
    have hsh : ∀ j, j < 4 → ShR ((fun j => if j = k then v' else V j) j) w' j := by
      intro j hj
      dsimp only
      by_cases hjk : j = k
      · subst hjk
        rw [if_pos rfl]
        exact g3
      · rw [if_neg hjk]
        exact ShR_f (h j hj) (by rw [g4 36 (by decide)]) (by rw [g4 37 (by decide)]) (fun i hi => g5 _ (by omega))
    have hfr : FrR w w' [36, 37, 38] [] := by
      refine ⟨fun j j0 hj => ?_, fun j _ => by rw [g4 0 (by decide)]⟩
      simp only [List.mem_cons, List.not_mem_nil, or_false, not_or] at hj
      exact g4 j hj.2.2
    refine ⟨a, (fun j => if j = k then v' else V j), w', ?_, g2, hsh, hfr⟩
    have : k = 0 ∨ k = 1 ∨ k = 2 ∨ k = 3 := by omega
    rcases this with rfl | rfl | rfl | rfl
    · rw [layC_0, g1]; rfl
    · rw [layC_1, g1]; rfl
    · rw [layC_2, g1]; rfl
    · rw [layC_3, g1]; rfl
/-! read -/
theorem sitA_same {A : AS} (x1 x2 : Int32) : SameS A (sitA A x1 x2).2 ∧ (sitA A x1 x2).2 0 = A 0 := by
  unfold sitA
  split
  · exact ⟨SameS.rf, rfl⟩
  · split
    · exact ⟨SameS.rf, rfl⟩
    · split
      · exact ⟨SameS.rf, rfl⟩
      · exact ⟨SameS.cov, by dsimp only; rw [covA_r (by decide) (by decide)]⟩
theorem in64_s {m n : Nat} {K : Int64} (hK : K.toInt = (n : Int) - 1) (hm : m < 2 ^ 62) : m_X6_in (lN m) 0 K = some (bI (decide (m < n))) := by
  unfold m_X6_in
  have h0 : (0 : Int64).toInt = 0 := rfl
  have hx : (lN m).toInt = (m : Int) := pk_lT (by omega)
  rw [if_neg (by rw [lg_cmp_lt, Int64.lt_iff_toInt_lt, hx, h0]; omega)]
  by_cases h : m < n
  · rw [if_neg (by rw [lg_cmp_gt, Int64.lt_iff_toInt_lt, hx, hK]; omega), decide_eq_true h]; rfl
  · rw [if_pos (by rw [lg_cmp_gt, Int64.lt_iff_toInt_lt, hx, hK]; omega), decide_eq_false h]; rfl
def RdR (T : AS) (w v0 v1 : SV) (rc : (Int32 × Int32 × Int32 × SV) ⊕ (Int32 × SV × SV × SV)) (rr : (Int32 × Int32 × Int32 × SV) ⊕ (Int32 × SV)) : Prop :=
  (∃ tn c a b zf wf Tf, rc = .inl (tn, c, a, zf) ∧ rr = .inl (tn, c, b, wf) ∧ RepC zf Tf ∧ WF Tf ∧ RM wf 0 Tf ∧ SameS T Tf ∧ Tf 0 = T 0 ∧ FrD w wf 0) ∨ (∃ a zf wf, rc = .inr (a, v0, v1, zf) ∧ rr = .inr (a, wf) ∧ (∀ k, k ≠ 50 → wf k = w k) ∧ (∀ i, i < 63 → wf 50 i = w 50 (189 + i)) ∧ ∀ i, 63 ≤ i → wf 50 i = w 50 i)
theorem rd_sim (v0 v1 : SV) {v : SV} {l n k f N : Nat} (h1 : l ≤ 2) (h2 : n ≤ 40) (h5 : v 0 1 = nI n) (hk : k < 4) (hf : f < 2 ^ 31) (hN : N ≤ 20) : ∀ j i T z w, i + j = N → RepC z T → WF T → RM w 0 T → w 36 k = nI l → w 37 k = nI n → (∀ i, i < n → v 2 i = w 38 (40 * k + i)) → ∃ rc rr, lpC (m_X5_read_L73 v0 v1 v (nI f) (nI N)) ((0 : Int32), nI i, nI i, z) = some rc ∧ lpC (m_X6_read_L56 (nI k) (nI l) (nI f) (nI N)) ((0 : Int32), nI i, nI (2 * i), w) = some rr ∧ RdR T w v0 v1 rc rr := by
  intro j
  induction j with
  | zero =>
    intro i T z w hi hR hW hM h36 h37 h38
    have hi : i = N := by omega
    subst hi
    refine ⟨.inl (0, nI i, nI i, z), .inl (0, nI i, nI (2 * i), w), lp_done ?_, lp_done ?_, .inl ⟨_, _, _, _, z, w, T, rfl, rfl, hR, hW, hM, SameS.rf, rfl, FrD.rf⟩⟩
    · unfold m_X5_read_L73
      dsimp +instances only
      rw [if_pos (nI_le (Nat.le_refl _) (by omega))]
    · unfold m_X6_read_L56
      dsimp +instances only
      rw [li_2, pk_mul, if_pos (nI_le (Nat.le_refl _) (by omega))]
  | succ j ih =>
    intro i T z w hi hR hW hM h36 h37 h38
    have hiN : i < N := by omega
    have ec : nI f + (2 : Int32) * nI i = nI (f + 2 * i) := by rw [li_2, pk_mul, nI_add]
    -- the step of the class
    have hc : m_X5_read_L73 v0 v1 v (nI f) (nI N) ((0 : Int32), nI i, nI i, z) = if f + 2 * i + 1 < n then (m_X3_sit z (v 2 (f + 2 * i)) (v 2 (f + 2 * i + 1))).bind (fun y143 => (if 0 ≤ y143.1 then some (.inl ((0 : Int32), nI (i + 1), nI (i + 1), y143.2)) else some (.inr (.inr (((-20 : Int32) - nI i), v0, v1, y143.2))))) else some (.inl ((2 : Int32), nI i, nI (i + 1), z)) := by
      unfold m_X5_read_L73
      dsimp +instances only
      rw [if_neg (nI_ge hiN (by omega)), if_pos rfl, ec, nI_1, nI_1, hasCell_x h5 h2, hasCell_x h5 h2, some_bind, some_bind, ix_big (by omega) h2, ix_big (by omega) h2, ifp (bI_0 _), ifp (bI_0 _)]
      by_cases hcc : f + 2 * i + 1 < n
      · rw [if_pos hcc, decide_eq_true hcc, decide_eq_true (show f + 2 * i < n by omega), if_neg (by simp), if_neg (by simp), inB_nI (by omega) (by omega), inB_nI (by omega) (by omega), ck_true, ck_true, nI_clamp (by omega), nI_clamp (by omega)]
      · rw [if_neg hcc, decide_eq_false hcc]
        by_cases hc2 : f + 2 * i < n
        · rw [decide_eq_true hc2, if_neg (by simp), if_pos rfl]
        · rw [decide_eq_false hc2, if_pos rfl]
    -- the two steps of the reference
    have hr1 : m_X6_read_L56 (nI k) (nI l) (nI f) (nI N) ((0 : Int32), nI i, nI (2 * i), w) = some (.inl ((if f + 2 * i < n then (0 : Int32) else 2), nI i, nI (2 * i + 1), w)) := by
      unfold m_X6_read_L56
      dsimp +instances only
      rw [li_2, pk_mul, if_neg (nI_ge (by omega) (by omega)), if_pos rfl, inB_nI hk (by omega)]
      simp only [ck_true]
      rw [nI_clamp (by omega), h36, if_neg (m4_ne h1), if_pos rfl, h37, nI_l (by omega), nI_l (by omega), lN_add, in64_s (pred_64 (by omega)) (by omega), some_bind, ifp (bI_0 _)]
      unfold m_X6_read_J126
      dsimp +instances only
      by_cases hc2 : f + 2 * i < n
      · rw [decide_eq_true hc2, if_neg (by simp), if_pos hc2, if_pos rfl, li_2, pk_rem (by omega) (by omega) (by omega), show 2 * i % 2 = 0 by omega, if_neg (by decide), nI_1]
      · rw [decide_eq_false hc2, if_pos rfl, if_neg hc2, if_neg (by decide), nI_1]
    by_cases hc2 : f + 2 * i < n
    · rw [if_pos hc2] at hr1
      have hr2 : m_X6_read_L56 (nI k) (nI l) (nI f) (nI N) ((0 : Int32), nI i, nI (2 * i + 1), w) = if f + 2 * i + 1 < n then (m_X6_painted w (w 38 (40 * k + (f + 2 * i))) (w 38 (40 * k + (f + 2 * i + 1)))).bind (fun y169 => (if 0 ≤ y169.1 then some (.inl ((0 : Int32), nI (i + 1), nI (2 * (i + 1)), y169.2)) else (m_X6_copies y169.2 (189 : Int32) (0 : Int32)).bind (fun y180 => some (.inr (.inr (((-20 : Int32) - nI i), y180)))))) else some (.inl ((2 : Int32), nI i, nI (2 * i + 1 + 1), w)) := by
        unfold m_X6_read_L56
        dsimp +instances only
        rw [li_2, pk_mul, if_neg (nI_ge (by omega) (by omega)), if_pos rfl, inB_nI hk (by omega)]
        simp only [ck_true]
        rw [nI_clamp (by omega), h36, if_neg (m4_ne h1), if_pos rfl, h37, nI_l (by omega), nI_l (by omega), lN_add, in64_s (pred_64 (by omega)) (by omega), some_bind, ifp (bI_0 _)]
        unfold m_X6_read_J126
        dsimp +instances only
        by_cases hcc : f + 2 * i + 1 < n
        · rw [decide_eq_true (show f + (2 * i + 1) < n by omega), if_neg (by simp), if_pos hcc, if_pos rfl, li_2, pk_rem (by omega) (by omega) (by omega), show (2 * i + 1) % 2 = 1 by omega, if_pos (show nI 1 = (1 : Int32) from rfl), show (40 : Int32) = nI 40 from rfl, pk_mul, nI_add, nI_add, show (1 : Int32) = nI 1 from rfl, pk_sub (by omega), inB_nI (by omega) (by omega), inB_nI (by omega) (by omega), ck_true, ck_true, nI_clamp (by omega), nI_clamp (by omega), nI_add, nI_add, show 40 * k + f + (2 * i + 1) - 1 = 40 * k + (f + 2 * i) by omega, show 40 * k + f + (2 * i + 1) = 40 * k + (f + 2 * i + 1) by omega, show 2 * i + 1 + 1 = 2 * (i + 1) by omega]
        · rw [decide_eq_false (show ¬ f + (2 * i + 1) < n by omega), if_pos rfl, if_neg hcc, if_neg (by decide), nI_1]
      by_cases hcc : f + 2 * i + 1 < n
      · rw [if_pos hcc] at hc hr2
        obtain ⟨z', s1, s2⟩ := sit_s hR hW.1 (v 2 (f + 2 * i)) (v 2 (f + 2 * i + 1))
        obtain ⟨w', p1, p2, p3⟩ := painted_s hM hW.1 (v 2 (f + 2 * i)) (v 2 (f + 2 * i + 1))
        rw [s1, some_bind] at hc
        rw [← h38 _ (by omega), ← h38 _ hcc, p1, some_bind] at hr2
        dsimp only at hc hr2
        by_cases ha : 0 ≤ (sitA T (v 2 (f + 2 * i)) (v 2 (f + 2 * i + 1))).1
        · rw [if_pos ha] at hc hr2
          have hss := sitA_same (A := T) (v 2 (f + 2 * i)) (v 2 (f + 2 * i + 1))
          obtain ⟨rc, rr, g1, g2, g3⟩ := ih (i + 1) _ z' w' (by omega) s2 (WF_sit hW _ _) p2 (by rw [p3.1 36 (by decide), h36]) (by rw [p3.1 37 (by decide), h37]) (fun i hi => by rw [p3.1 38 (by decide)]; exact h38 i hi)
          refine ⟨rc, rr, by rw [lp_next hc]; exact g1, by rw [lp_next hr1, lp_next hr2]; exact g2, ?_⟩
          rcases g3 with ⟨tn, c, a, b, zf, wf, Tf, q1, q2, q3, q4, q5, q6, q7, q8⟩ | ⟨a, zf, wf, q1, q2, q3, q4, q5⟩
          · exact .inl ⟨tn, c, a, b, zf, wf, Tf, q1, q2, q3, q4, q5, hss.1.tr q6, q7.trans hss.2, p3.tr q8⟩
          · exact .inr ⟨a, zf, wf, q1, q2, fun k hk => (q3 k hk).trans (p3.1 k hk), fun i hi => (q4 i hi).trans (p3.2 _ (by omega)), fun i hi => (q5 i hi).trans (p3.2 _ (by omega))⟩
        · rw [if_neg ha] at hc hr2
          obtain ⟨wf, c1, c2, c3⟩ := copies_s w' (a := 189) (b := 0) (by omega) (by omega) (by omega)
          rw [show (189 : Int32) = nI 189 from rfl, show (0 : Int32) = nI 0 from rfl, c1, some_bind] at hr2
          refine ⟨_, _, lp_done hc, by rw [lp_next hr1]; exact lp_done hr2, .inr ⟨_, z', wf, rfl, rfl, fun k hk => (c2 k hk).trans (p3.1 k hk), fun i hi => ?_, fun i hi => ?_⟩⟩
          · rw [c3, if_pos (by omega), p3.2 _ (by omega)]
            congr 1
          · rw [c3, if_neg (by omega), p3.2 _ (by omega)]
      · rw [if_neg hcc] at hc hr2
        refine ⟨.inl (2, nI i, nI (i + 1), z), .inl (2, nI i, nI (2 * i + 1 + 1), w), ?_, ?_, .inl ⟨_, _, _, _, z, w, T, rfl, rfl, hR, hW, hM, SameS.rf, rfl, FrD.rf⟩⟩
        · rw [lp_next hc]
          refine lp_done ?_
          unfold m_X5_read_L73
          dsimp +instances only
          by_cases hle : nI N ≤ nI (i + 1)
          · rw [if_pos hle]
          · rw [if_neg hle, if_neg (by decide)]
        · rw [lp_next hr1, lp_next hr2]
          refine lp_done ?_
          unfold m_X6_read_L56
          dsimp +instances only
          by_cases hle : (2 : Int32) * nI N ≤ nI (2 * i + 1 + 1)
          · rw [if_pos hle]
          · rw [if_neg hle, if_neg (by decide)]
    · rw [if_neg hc2] at hr1
      rw [if_neg (show ¬ f + 2 * i + 1 < n by omega)] at hc
      refine ⟨.inl (2, nI i, nI (i + 1), z), .inl (2, nI i, nI (2 * i + 1), w), ?_, ?_, .inl ⟨_, _, _, _, z, w, T, rfl, rfl, hR, hW, hM, SameS.rf, rfl, FrD.rf⟩⟩
      · rw [lp_next hc]
        refine lp_done ?_
        unfold m_X5_read_L73
        dsimp +instances only
        by_cases hle : nI N ≤ nI (i + 1)
        · rw [if_pos hle]
        · rw [if_neg hle, if_neg (by decide)]
      · rw [lp_next hr1]
        refine lp_done ?_
        unfold m_X6_read_L56
        dsimp +instances only
        by_cases hle : (2 : Int32) * nI N ≤ nI (2 * i + 1)
        · rw [if_pos hle]
        · rw [if_neg hle, if_neg (by decide)]
