/-! ===== PURE: images, count ===== -/
def CntS (A B : AS) : Prop := (∀ j, j < 4 → B 0 j = A 0 j) ∧ B 14 = A 14 ∧ B 15 = A 15 ∧ B 16 = A 16
theorem CntS.rf {A : AS} : CntS A A := ⟨fun _ _ => rfl, rfl, rfl, rfl⟩
theorem CntS.of {A B : AS} (h : SameS A B) : CntS A B := ⟨h.1, h.2.2.2.2.2.1, h.2.2.2.2.2.2.1, h.2.2.2.2.2.2.2⟩
theorem CntS.tr {A B C : AS} (h : CntS A B) (h' : CntS B C) : CntS A C := ⟨fun j hj => (h'.1 j hj).trans (h.1 j hj), h'.2.1.trans h.2.1, h'.2.2.1.trans h.2.2.1, h'.2.2.2.trans h.2.2.2⟩
theorem CntS.sy {A B : AS} (h : CntS A B) : CntS B A := ⟨fun j hj => (h.1 j hj).symm, h.2.1.symm, h.2.2.1.symm, h.2.2.2.symm⟩
theorem RN_cnt {w : SV} {A B : AS} (h : RN w A) (hs : CntS A B) : RN w B := by
  obtain ⟨h1, h2, h3, h4, h5, h6⟩ := h
  obtain ⟨s0, s14, s15, s16⟩ := hs
  unfold RN
  rw [s0 0 (by omega), s0 1 (by omega), s0 2 (by omega), s0 3 (by omega), s14, s15, s16]
  exact ⟨h1, h2, h3, h4, h5, h6⟩
def ImR (v0 vI w : SV) (k : Nat) (A : AS) (kp : Bool) : Prop := v0 4 k = bI kp ∧ w 35 k = bI kp ∧ (kp = true → ∃ I, RepC vI I ∧ WF I ∧ I 0 4 < 1000 ∧ RS w (63 * (k + 1)) I ∧ RP w (63 * (k + 1)) I ∧ CntS A I)
theorem ImR_f {v0 v0' vI w w' : SV} {k : Nat} {A B : AS} {kp : Bool} (hk : k < 2) (h : ImR v0 vI w k A kp) (h0 : v0' 4 k = v0 4 k) (h35 : w' 35 k = w 35 k) (h50 : ∀ i, i < 63 → w' 50 (63 * (k + 1) + i) = w 50 (63 * (k + 1) + i)) (hs : CntS A B) : ImR v0' vI w' k B kp := by
  obtain ⟨h1, h2, h3⟩ := h
  refine ⟨by rw [h0, h1], by rw [h35, h2], fun hp => ?_⟩
  obtain ⟨I, g1, g2, g3, g4, g5, g6⟩ := h3 hp
  have hn := g2.1.n
  exact ⟨I, g1, g2, g3, RS_f ⟨by omega, by omega⟩ g4 (fun i hi => h50 i (by omega)), RP_f g2.1 g5 (fun i _ hi => h50 i hi), hs.sy.tr g6⟩
theorem nar_1 : vp_nar .boolean (1 : Int32) = 1 := by decide
theorem nar_0 : vp_nar .boolean (0 : Int32) = 0 := by decide
theorem keep_b {v0 v1 w : SV} {V : Nat → SV} {A : AS} {kp : Nat → Bool} (hR : RepC v1 A) (hW : WF A) (hd : A 0 4 < 1000) (hM : RM w 0 A) (h : ∀ k, k < 2 → ImR v0 (V k) w k A (kp k)) (x : Int32) : ∃ a, ∃ v0' : SV, ∃ V' : Nat → SV, ∃ w', ∃ kp' : Nat → Bool, m_X5_keep v0 v1 (V 0) (V 1) x = some (a, v0', V' 0, V' 1) ∧ m_X6_keep w x = some (a, w') ∧ (∀ k, k < 2 → ImR v0' (V' k) w' k A (kp' k)) ∧ RM w' 0 A ∧ (∀ r, r ≠ 4 → v0' r = v0 r) ∧ (∀ r, r ≠ 35 → r ≠ 50 → w' r = w r) := by
  have hn := hW.1.n
  unfold m_X5_keep m_X6_keep
  rw [within_s (k := 2) (by decide) (by omega), in_s (k := 2) (by decide) (by omega), some_bind, some_bind]
  cases hx : ix x 2 with
  | none => exact ⟨_, v0, V, w, kp, rfl, rfl, h, hM, fun _ _ => rfl, fun _ _ _ => rfl⟩
  | some k =>
    obtain ⟨rfl, hk⟩ := ix_some hx
    simp only [Option.isSome_some, show bI true = 1 from rfl, ne10, if_false]
    obtain ⟨h1, h2, h3⟩ := h k hk
    obtain ⟨vI, c1, c2⟩ := becomes_s (V k) hR
    obtain ⟨y, d1, d2, d3⟩ := copies_s w (a := 0) (b := 63 * (k + 1)) (by omega) (by omega) (by omega)
    rw [nI_1, show (63 : Int32) = nI 63 from rfl, pk_mul, show (0 : Int32) = nI 0 from rfl, d1, some_bind, ← show (0 : Int32) = nI 0 from rfl, inB_nI hk (by omega)]
    simp only [ck_true, lett_eq]
    rw [nI_clamp (by omega), h1, d2 35 (by decide), h2, nar_1]
    have hM' : RM (up2 y 35 k 1) 0 A := by
      have e50 : ∀ i, i < 63 → up2 y 35 k 1 50 (0 + i) = w 50 (0 + i) := fun i hi => by rw [up2_n (by decide), d3, if_neg (by omega)]
      refine ⟨RN_f hM.1 (by rw [up2_n (by decide), d2 0 (by decide)]) (by rw [up2_n (by decide), d2 3 (by decide)]) (by rw [up2_n (by decide), d2 5 (by decide)]), RS_f ⟨by omega, by omega⟩ hM.2.1 (fun i hi => e50 i (by omega)), RP_f hW.1 hM.2.2 (fun i _ hi => e50 i hi)⟩
    have hIm : ∀ j, j < 2 → ImR (up2 v0 4 k 1) ((fun j => if j = k then vI else V j) j) (up2 y 35 k 1) j A ((fun j => if j = k then true else kp j) j) := by
      intro j hj
      dsimp only
      by_cases hjk : j = k
      · subst hjk
        rw [if_pos rfl, if_pos rfl]
        have e50 : ∀ i, i < 63 → up2 y 35 j 1 50 (63 * (j + 1) + i) = w 50 (0 + i) := fun i hi => by rw [up2_n (by decide), d3, if_pos (by omega), show 0 + (63 * (j + 1) + i - 63 * (j + 1)) = 0 + i by omega]
        exact ⟨by rw [up2_ss]; rfl, by rw [up2_ss]; rfl, fun _ => ⟨A, c2, hW, hd, RS_f ⟨by omega, by omega⟩ hM.2.1 (fun i hi => e50 i (by omega)), RP_f hW.1 hM.2.2 (fun i _ hi => e50 i hi), CntS.rf⟩⟩
      · rw [if_neg hjk, if_neg hjk]
        refine ImR_f hj (h j hj) (up2_si hjk) (by rw [up2_si hjk, d2 35 (by decide)]) (fun i hi => ?_) CntS.rf
        rw [up2_n (by decide), d3, if_neg (by omega)]
    have hfr : ∀ r, r ≠ 35 → r ≠ 50 → up2 y 35 k 1 r = w r := fun r h35 h50 => by rw [up2_n h35, d2 r h50]
    have hcl : ∀ z : Int32, m_X5_keep_J25 v0 v1 (V 0) (V 1) (nI k) z = some (z, up2 v0 4 k 1, (fun j => if j = k then vI else V j) 0, (fun j => if j = k then vI else V j) 1) := by
      intro z
      unfold m_X5_keep_J25
      rw [inB_nI hk (by omega)]
      simp only [ck_true, lett_eq]
      rw [nI_clamp (by omega), nar_1]
      have : k = 0 ∨ k = 1 := by omega
      rcases this with rfl | rfl
      · rw [if_pos (show nI 0 = (0 : Int32) from rfl), c1]; rfl
      · rw [if_neg (show ¬ nI 1 = (0 : Int32) from by decide), if_pos (show nI 1 = (1 : Int32) from rfl), c1]; rfl
    rw [hcl, hcl]
    cases kp k with
    | false => exact ⟨0, _, _, _, _, by rw [if_pos (show bI false = 0 from rfl)], by rw [if_pos (show bI false = 0 from rfl)], hIm, hM', fun r hr => up2_n hr, hfr⟩
    | true => exact ⟨1, _, _, _, _, by rw [if_neg (show ¬ bI true = 0 from by decide)], by rw [if_neg (show ¬ bI true = 0 from by decide)], hIm, hM', fun r hr => up2_n hr, hfr⟩
theorem back_b {v0 v1 w : SV} {V : Nat → SV} {A : AS} {kp : Nat → Bool} (hR : RepC v1 A) (hW : WF A) (hd : A 0 4 < 1000) (hM : RM w 0 A) (h : ∀ k, k < 2 → ImR v0 (V k) w k A (kp k)) (x : Int32) : ∃ a v1' w' A', m_X5_back v0 v1 (V 0) (V 1) x = some (a, v1') ∧ m_X6_back w x = some (a, w') ∧ RepC v1' A' ∧ WF A' ∧ A' 0 4 < 1000 ∧ RM w' 0 A' ∧ CntS A A' ∧ FrP w w' := by
  have hn := hW.1.n
  unfold m_X5_back m_X6_back
  rw [within_s (k := 2) (by decide) (by omega), in_s (k := 2) (by decide) (by omega), some_bind, some_bind]
  cases hx : ix x 2 with
  | none => exact ⟨_, v1, w, A, rfl, rfl, hR, hW, hd, hM, CntS.rf, FrP.rf⟩
  | some k =>
    obtain ⟨rfl, hk⟩ := ix_some hx
    simp only [Option.isSome_some, show bI true = 1 from rfl, ne10, if_false]
    obtain ⟨h1, h2, h3⟩ := h k hk
    rw [inB_nI hk (by omega), ck_true, ck_true, nI_clamp (by omega), h1, h2]
    cases hkp : kp k with
    | false => rw [if_pos (show bI false = 0 from rfl), if_pos (show bI false = 0 from rfl)]; exact ⟨_, v1, w, A, rfl, rfl, hR, hW, hd, hM, CntS.rf, FrP.rf⟩
    | true =>
      obtain ⟨I, g1, g2, g3, g4, g5, g6⟩ := h3 hkp
      have hnI := g2.1.n
      obtain ⟨v', c1, c2⟩ := becomes_s v1 g1
      obtain ⟨y, d1, d2, d3⟩ := copies_s w (a := 63 * (k + 1)) (b := 0) (by omega) (by omega) (by omega)
      have e50 : ∀ i, i < 63 → y 50 (0 + i) = w 50 (63 * (k + 1) + i) := fun i hi => by rw [d3, if_pos (by omega), show 63 * (k + 1) + (0 + i - 0) = 63 * (k + 1) + i by omega]
      have hM' : RM y 0 I := ⟨RN_cnt (RN_f hM.1 (d2 0 (by decide)) (d2 3 (by decide)) (d2 5 (by decide))) g6, RS_f ⟨by omega, by omega⟩ g4 (fun i hi => e50 i (by omega)), RP_f g2.1 g5 (fun i _ hi => e50 i hi)⟩
      rw [if_neg (show ¬ bI true = 0 from by decide), if_neg (show ¬ bI true = 0 from by decide), nI_1, show (63 : Int32) = nI 63 from rfl, pk_mul]
      rw [show m_X6_copies w (nI (63 * (k + 1))) (0 : Int32) = some y from d1, some_bind, c61, hM'.da0]
      refine ⟨nI (I 0 4), v', y, I, ?_, rfl, c2, g2, g3, hM', g6, ⟨fun r hr => d2 r hr, fun i hi => by rw [d3, if_neg (by omega)]⟩⟩
      have : k = 0 ∨ k = 1 := by omega
      rcases this with rfl | rfl
      · rw [if_pos (show nI 0 = (0 : Int32) from rfl), c1, some_bind, c2.n (j := 4) (by omega)]
      · rw [if_neg (show ¬ nI 1 = (0 : Int32) from by decide), if_pos (show nI 1 = (1 : Int32) from rfl), c1, some_bind, c2.n (j := 4) (by omega)]
theorem count_b {v0 v1 v5 v6 v7 v9 w : SV} {A S : AS} {n : Nat} {t : Nat → Nat} {V : Nat → SV} {kp : Nat → Bool} (hR : RepC v1 A) (hW : WF A) (hM : RM w 0 A) (hT : RepT v5 w n t) (hS : RepN v7 w S A) (hI : ∀ k, k < 2 → ImR v0 (V k) w k A (kp k)) (hSh : ShR v9 w 0) (x : Int32) : ∃ a, m_X5_count v0 v1 v5 v6 v7 v9 x = some a ∧ m_X6_count w x = some a := by
  have hn := hW.1.n
  have hl : lpC (m_X6_count_L7 w) ((0 : Int32), (0 : Int32), (0 : Int32)) = some (nI (sumA A 7), nI (sumA A 6), nI (A 0 0)) := by
    rw [show ((0 : Int32), (0 : Int32), (0 : Int32)) = (fun k => (nI (sumN (A 7) k), nI (sumN (A 6) k), nI k)) 0 from rfl]
    refine lp_run (step := m_X6_count_L7 w) (fun k => (nI (sumN (A 7) k), nI (sumN (A 6) k), nI k)) (A 0 0) ?_ ?_
    · intro k hk
      unfold m_X6_count_L7
      dsimp +instances only
      rw [hM.n0, if_neg (nI_ge hk (by omega)), li_6, nI_add, inB_nI (by omega) (by omega), ck_true, worthOf_s hM hW.1 hk, some_bind, nI_clamp (by omega), hM.he0 hk, nI_add, nI_add, nI_1]
      rfl
    · unfold m_X6_count_L7
      dsimp +instances only
      rw [hM.n0, if_pos (nI_le (Nat.le_refl _) (by omega))]
      rfl
  have hs0 : (m_X2_isThere v9).bind (fun y96 => (if y96 = 0 then some (-4 : Int32) else some (v9 0 1))) = (if (w 36 0) = (-4 : Int32) then some (-4 : Int32) else some (w 37 0)) := by
    rw [isThere_s hSh, some_bind]
    rcases hSh with ⟨h1, h2⟩ | ⟨l, n, h1, h2, h3, h4, h5, h6, h7⟩
    · rw [h2]; rfl
    · rw [h4, show decide (¬ nI l = (-4 : Int32)) = true from decide_eq_true (m4_ne h1), if_neg (by decide), if_neg (m4_ne h1), h5, h6]
  obtain ⟨i1, i2, -⟩ := hI 0 (by omega)
  obtain ⟨j1, j2, -⟩ := hI 1 (by omega)
  unfold m_X5_count m_X6_count
  rw [hl, some_bind]
  unfold m_X6_count_K7
  dsimp +instances only
  rw [show Int32.toNatClampNeg 0 = 0 from rfl, show Int32.toNatClampNeg 1 = 1 from rfl, hs0, sumOf_s hR hW.1 hR.r7, sumOf_s hR hW.1 hR.r6, likeBonds_s hR hW, li_0, likeBondsOn_s hM hW (by omega), hS.1, hS.2.1, hT.1, hT.2.1, i1, i2, j1, j2]
  simp only [some_bind, some_if]
  exact ⟨_, rfl, rfl⟩
/-! ===== the whole relation ===== -/
def FrO (w w' : SV) : Prop := (∀ k, k = 18 ∨ k = 27 ∨ k = 28 ∨ k = 31 ∨ k = 35 ∨ k = 36 ∨ k = 37 ∨ k = 38 → w' k = w k) ∧ (∀ j, j = 19 ∨ j = 20 ∨ j = 32 ∨ j = 39 → w' 0 j = w 0 j) ∧ ∀ i, 63 ≤ i → i < 189 → w' 50 i = w 50 i
theorem FrO.rf {w : SV} : FrO w w := ⟨fun _ _ => rfl, fun _ _ => rfl, fun _ _ _ => rfl⟩
theorem FrO.kp {w w' : SV} (h : Kp w w') : FrO w w' := ⟨fun k hk => h.1 k (by omega) (by omega) (by omega) (by omega) (by omega), fun j hj => h.2.1 j (by omega), fun i hi hi2 => h.2.2 i hi2⟩
theorem FrO.fp {w w' : SV} (h : FrP w w') : FrO w w' := ⟨fun k hk => h.1 k (by omega), fun j hj => by rw [h.1 0 (by decide)], fun i hi _ => h.2 i hi⟩
def Oth (v0 v3 v4 v5 v7 v9 v10 v11 v12 w : SV) (A : AS) : Prop := ∃ n t S, ∃ kp : Nat → Bool, RepT v5 w n t ∧ v5 0 3 = w 0 20 ∧ RepN v7 w S A ∧ ImR v0 v3 w 0 A (kp 0) ∧ ImR v0 v4 w 1 A (kp 1) ∧ ShR v9 w 0 ∧ ShR v10 w 1 ∧ ShR v11 w 2 ∧ ShR v12 w 3 ∧ v0 0 10 = w 0 39 ∧ w 27 = v_X6 27 ∧ w 28 = v_X6 28
theorem RepT_f {v w w' : SV} {n : Nat} {t : Nat → Nat} (h : RepT v w n t) (h18 : w' 18 = w 18) (h19 : w' 0 19 = w 0 19) : RepT v w' n t := by
  unfold RepT at h ⊢
  rw [h18, h19]
  exact h
theorem RepN_f {v w w' : SV} {S A B : AS} (h : RepN v w S A) (h31 : w' 31 = w 31) (h32 : w' 0 32 = w 0 32) (hs : B 0 0 = A 0 0) : RepN v w' S B := by
  unfold RepN at h ⊢
  rw [h31, h32, hs]
  exact h
theorem Oth_f {v0 v0' v3 v4 v5 v7 v9 v10 v11 v12 w w' : SV} {A B : AS} (h : Oth v0 v3 v4 v5 v7 v9 v10 v11 v12 w A) (hF : FrO w w') (hs : CntS A B) (h04 : v0' 4 = v0 4) (h010 : v0' 0 10 = v0 0 10) : Oth v0' v3 v4 v5 v7 v9 v10 v11 v12 w' B := by
  obtain ⟨n, t, S, kp, a1, a2, a3, a4, a5, a6, a7, a8, a9, a10, a11, a12⟩ := h
  obtain ⟨f1, f2, f3⟩ := hF
  have hSh : ∀ {v : SV} {k : Nat}, ShR v w k → ShR v w' k := fun h => ShR_f h (by rw [f1 36 (by omega)]) (by rw [f1 37 (by omega)]) (fun i _ => by rw [f1 38 (by omega)])
  exact ⟨n, t, S, kp, RepT_f a1 (f1 18 (by omega)) (f2 19 (by omega)), by rw [a2, f2 20 (by omega)], RepN_f a3 (f1 31 (by omega)) (f2 32 (by omega)) (hs.1 0 (by omega)), ImR_f (by omega) a4 (by rw [h04]) (by rw [f1 35 (by omega)]) (fun i hi => f3 _ (by omega) (by omega)) hs, ImR_f (by omega) a5 (by rw [h04]) (by rw [f1 35 (by omega)]) (fun i hi => f3 _ (by omega) (by omega)) hs, hSh a6, hSh a7, hSh a8, hSh a9, by rw [h010, a10, f2 39 (by omega)], by rw [f1 27 (by omega), a11], by rw [f1 28 (by omega), a12]⟩
def Rel (G : Nat → SV) (w : SV) : Prop := ∃ A, RepC (G 1) A ∧ WF A ∧ A 0 4 < 1000 ∧ RM w 0 A ∧ Oth (G 0) (G 3) (G 4) (G 5) (G 7) (G 9) (G 10) (G 11) (G 12) w A
