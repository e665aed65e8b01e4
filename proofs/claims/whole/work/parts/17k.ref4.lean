/-! ===== PURE: the reference's side: days, next, value, drift ===== -/
theorem go6_s {w : SV} {A : AS} (hM : RM w 0 A) (hW : WF A) (x : Int32) : ∃ w', m_X6_go w x = some ((goA A x).1, w') ∧ RM w' 0 (goA A x).2 ∧ FrP w w' := by
  have hn := hW.1.n
  unfold m_X6_go goA
  rw [in_s (k := 61) (by decide) (by omega), some_bind]
  cases h1 : ix x 61 with
  | none => exact ⟨w, rfl, hM, FrP.rf⟩
  | some n =>
    obtain ⟨rfl, hn9⟩ := ix_some h1
    simp only [Option.isSome_some, bI, if_true, ne10, if_false]
    rw [c61, hM.da0, nI_add, show (999 : Int32) = nI 999 from rfl, ifp (cast_le (by omega) (by omega))]
    by_cases hc : A 0 4 + n < 1000
    · rw [if_pos (show A 0 4 + n ≤ 999 by omega), if_pos hc]
      have := lp_inv (step := m_X6_go_L36 (nI n)) (fun k z => z.1 = nI (pdA A k) ∧ z.2.1 = nI k ∧ RM z.2.2 0 (dyN A k) ∧ FrD w z.2.2 0) (fun r => r.1 = nI (pdA A n) ∧ RM r.2.2 0 (dyN A n) ∧ FrD w r.2.2 0) n ?_ ?_ (s0 := ((0 : Int32), (0 : Int32), w)) ⟨rfl, rfl, hM, FrD.rf⟩
      · obtain ⟨r, hr, hP1, hP2, hP3⟩ := this
        rw [hr, some_bind]
        unfold m_X6_go_K36
        exact ⟨_, by rw [hP1], hP2, FrP.of hP3⟩
      · rintro k ⟨z1, z2, z3⟩ hk ⟨e1, e2, hI, hF⟩
        dsimp only at e1 e2 hI hF
        subst e1 e2
        left
        unfold m_X6_go_L36
        dsimp +instances only
        obtain ⟨v', h3, h4, h5⟩ := dayOn_s hI (WF_dyN hW k (by omega)) (by omega) (.inl rfl)
        rw [if_neg (nI_ge hk (by omega)), li_0, h3, some_bind, nI_1]
        refine ⟨_, rfl, ?_, rfl, h4, hF.tr h5⟩
        show nI (pdA A k) + bI (cmA (dyN A k)).isSome = nI (pdA A k + (if (cmA (dyN A k)).isSome then 1 else 0))
        rw [← nI_add]
        cases (cmA (dyN A k)).isSome <;> rfl
      · rintro ⟨z1, z2, z3⟩ ⟨e1, e2, hI, hF⟩
        dsimp only at e1 e2 hI hF
        subst e1 e2
        unfold m_X6_go_L36
        dsimp +instances only
        rw [if_pos (nI_le (Nat.le_refl _) (by omega))]
        exact ⟨_, rfl, rfl, hI, hF⟩
    · rw [if_neg (show ¬ A 0 4 + n ≤ 999 by omega), if_neg hc]
      exact ⟨w, rfl, hM, FrP.rf⟩
theorem ahead6_s {w : SV} {A : AS} (hM : RM w 0 A) (hW : WF A) (hd : A 0 4 < 1000) (x1 x2 x3 : Int32) : ∃ w', m_X6_ahead w x1 x2 x3 = some (ahA A x1 x2 x3, w') ∧ Kp w w' := by
  have hn := hW.1.n
  unfold m_X6_ahead ahA
  rw [isSitter_s hM hW.1, some_bind, in_s (k := 61) (by decide) (by omega), in_s (k := 2) (by decide) (by omega)]
  cases h1 : ix x1 (A 0 1) with
  | none => exact ⟨w, rfl, Kp.rf⟩
  | some s =>
    obtain ⟨rfl, hs⟩ := ix_some h1
    simp only [Option.isSome_some, bI, if_true, ne10, if_false, some_bind]
    cases h2 : ix x2 61 with
    | none => exact ⟨w, rfl, Kp.rf⟩
    | some n =>
      obtain ⟨rfl, hn9⟩ := ix_some h2
      simp only [Option.isSome_some, if_true, ne10, if_false]
      cases h3 : ix x3 2 with
      | none => exact ⟨w, rfl, Kp.rf⟩
      | some u =>
        obtain ⟨rfl, hu⟩ := ix_some h3
        simp only [Option.isSome_some, if_true, ne10, if_false]
        obtain ⟨y, h4, h5, h6, h7, -⟩ := tried_s hM hW.1 (b := 252) (by omega) (by omega)
        rw [li_0, li_252, h4, some_bind]
        have := lp_inv (step := m_X6_ahead_L43 (nI n)) (fun k z => z.1 = nI k ∧ RM z.2 252 (dyN A k) ∧ FrD y z.2 252) (fun r => RM r.2 252 (dyN A n) ∧ FrD y r.2 252) n ?_ ?_ (s0 := (nI 0, y)) ⟨rfl, h5, FrD.rf⟩
        · obtain ⟨⟨r1, r⟩, hr, hP, hF⟩ := this
          dsimp only at hP hF
          have hWn := WF_dyN hW n (by omega)
          have e01 : dyN A n 0 1 = A 0 1 := dyN_0 (by decide) (by decide) n
          have e1 : r 50 (308 + s) = nI (dyN A n 13 s) := hP.ea (by rw [e01]; exact hs)
          have e2 : r 50 (56 + s) = nI (A 13 s) := (hF.2 _ (by omega)).trans (h6.ea0 hs)
          rw [hr, some_bind]
          unfold m_X6_ahead_K43
          dsimp +instances only
          rw [ifp (show (nI u = (0 : Int32)) = (u = 0) from cast_eq (b := 0) (by omega) (by omega)), show (308 : Int32) = nI 308 from rfl, li_56, nI_add, nI_add, inB_nI (by omega) (by omega), inB_nI (by omega) (by omega), ck_true, ck_true, nI_clamp (by omega), nI_clamp (by omega), e1, e2, li_252, show nI s = oI (some s) from rfl, shownOn_s hP hWn (by omega) (fun t h => by cases h; omega), some_bind]
          split
          · exact ⟨_, rfl, h7.tr (Kp.fr hF (by omega))⟩
          · exact ⟨_, rfl, h7.tr (Kp.fr hF (by omega))⟩
        · rintro k ⟨z1, z2⟩ hk ⟨e1, hI, hF⟩
          dsimp only at e1 hI hF
          subst e1
          left
          unfold m_X6_ahead_L43
          dsimp +instances only
          obtain ⟨v9, h8, h9, h10⟩ := dayOn_s hI (WF_dyN hW k (by omega)) (by omega) (.inr (by omega))
          rw [if_neg (nI_ge hk (by omega)), li_252, h8, some_bind, nI_1]
          exact ⟨_, rfl, rfl, h9, hF.tr h10⟩
        · rintro ⟨z1, z2⟩ ⟨e1, hI, hF⟩
          dsimp only at e1 hI hF
          subst e1
          unfold m_X6_ahead_L43
          dsimp +instances only
          rw [if_pos (nI_le (Nat.le_refl _) (by omega))]
          exact ⟨_, rfl, hI, hF⟩
theorem when6_s {w : SV} {A : AS} (hM : RM w 0 A) (hW : WF A) (hd : A 0 4 < 1000) (x1 x2 : Int32) : ∃ w', m_X6_when w x1 x2 = some (whA A x1 x2, w') ∧ Kp w w' := by
  have hn := hW.1.n
  unfold m_X6_when whA
  rw [isPart_s hM hW.1, some_bind, isSitter_s hM hW.1]
  cases h1 : ix x1 (A 0 0) with
  | none => exact ⟨w, rfl, Kp.rf⟩
  | some p =>
    obtain ⟨rfl, hp⟩ := ix_some h1
    simp only [Option.isSome_some, bI, if_true, ne10, if_false, some_bind]
    cases h2 : ix x2 (A 0 1) with
    | none => exact ⟨w, rfl, Kp.rf⟩
    | some s =>
      obtain ⟨rfl, hs⟩ := ix_some h2
      simp only [Option.isSome_some, if_true, ne10, if_false]
      obtain ⟨y, h4, h5, h6, h7, -⟩ := tried_s hM hW.1 (b := 252) (by omega) (by omega)
      rw [li_0, li_252, h4, some_bind]
      have := lp_inv (step := m_X6_when_L28 (nI p) (nI s)) (fun k z => z.1 = nI k ∧ RM z.2 252 (dyN A k) ∧ FrD y z.2 252 ∧ ∀ j, j < k → decide (tpA (dyN A j) p = some s) = false) (fun r => ∃ v9, (Sum.elim m_X6_when_K28 (fun y => some y)) r = some (oI (firstN (fun d => decide (tpA (dyN A d) p = some s)) 61), v9) ∧ FrD y v9 252) 61 ?_ ?_ (s0 := (nI 0, y)) ⟨rfl, h5, FrD.rf, fun j hj => absurd hj (Nat.not_lt_zero j)⟩
      · obtain ⟨r, hr, v9, hP, hF⟩ := this
        rw [hr, some_bind, hP]
        exact ⟨v9, rfl, h7.tr (Kp.fr hF (by omega))⟩
      · rintro k ⟨z1, z2⟩ hk ⟨e1, hI, hF, hno⟩
        dsimp only at e1 hI hF hno
        subst e1
        have hWk := WF_dyN hW k (by omega)
        unfold m_X6_when_L28
        dsimp +instances only
        rw [show (60 : Int32) = nI 60 from rfl, if_neg (nI_nlt (by omega) (by omega)), li_252, topOn_s hI hWk.1 (by omega) (by rw [dyN_0 (by decide) (by decide)]; exact hp), some_bind, show nI s = oI (some s) from rfl, ifp (oI_eq (fun t ht => by have := tpA_5 hWk (by omega) ht; omega) (fun t ht => by cases ht; omega))]
        by_cases hc : tpA (dyN A k) p = some s
        · right
          rw [if_pos hc]
          refine ⟨_, rfl, z2, ?_, hF⟩
          rw [firstN_of hk (by simp [hc]) hno]
          rfl
        · left
          obtain ⟨v9, h8, h9, h10⟩ := dayOn_s hI hWk (by omega) (.inr (by omega))
          rw [if_neg hc, h8, some_bind, nI_1]
          refine ⟨_, rfl, rfl, h9, hF.tr h10, ?_⟩
          intro j hj
          by_cases hjk : j = k
          · subst hjk; simp [hc]
          · exact hno j (by omega)
      · rintro ⟨z1, z2⟩ ⟨e1, hI, hF, hno⟩
        dsimp only at e1 hI hF hno
        subst e1
        unfold m_X6_when_L28
        dsimp +instances only
        rw [show (60 : Int32) = nI 60 from rfl, if_pos (nI_lt (by omega) (by omega))]
        refine ⟨_, rfl, z2, ?_, hF⟩
        cases hf : firstN (fun d => decide (tpA (dyN A d) p = some s)) 61 with
        | none => rfl
        | some j => have := firstN_some hf; rw [hno j this.1] at this; cases this.2.1
theorem RM_29 {w : SV} {pg i : Nat} {x : Int32} {A : AS} (hM : RM w pg A) : RM (up2 w 29 i x) pg A := RM_x hM (fun j _ => by rw [up2_n (by decide)]) (up2_n (by decide)) (up2_n (by decide)) (up2_n (by decide))
theorem paid_s {w0 w : SV} {T : AS} {h : Nat → Nat} (hM : RM w 252 T) (hW : WF T) (hk : Kp w0 w) (h8 : ∀ s, s < T 0 1 → w 29 s = nI (h s)) (hb : ∀ s, h s ≤ 10000) : ∃ r, lpC m_X6_even_L55 ((1 : Int32), (0 : Int32), w) = some r ∧ (r.1 = bI (allN (fun s => decide (h s + inA T s = h 0 + inA T 0)) (T 0 1)) ∧ RM r.2.2 252 T ∧ Kp w0 r.2.2 ∧ ∀ s, s < T 0 1 → r.2.2 29 s = nI (h s + inA T s)) := by
  have hn := hW.1.n
  refine lp_inv (step := m_X6_even_L55) (fun k z => z.1 = bI (allN (fun s => decide (h s + inA T s = h 0 + inA T 0)) k) ∧ z.2.1 = nI k ∧ (∀ s, s < T 0 1 → z.2.2 29 s = nI (if s < k then h s + inA T s else h s)) ∧ RM z.2.2 252 T ∧ Kp w0 z.2.2) _ (T 0 1) ?_ ?_ (s0 := ((1 : Int32), (0 : Int32), w)) ⟨rfl, rfl, fun s hs => by rw [if_neg (Nat.not_lt_zero s)]; exact h8 s hs, hM, hk⟩
  · rintro k ⟨z1, z2, z3⟩ hk ⟨e1, e2, e3, e4, e5⟩
    dsimp only at e1 e2 e3 e4 e5
    subst e1 e2
    left
    have i1 := inA_le hW.1 k
    have i2 := inA_le hW.1 0
    have b1 := hb k
    have b2 := hb 0
    have ek := e3 k hk
    rw [if_neg (Nat.lt_irrefl k)] at ek
    have key : up2 z3 29 k (nI (h k + inA T k)) 29 0 = nI (h 0 + inA T 0) := by
      by_cases hk0 : k = 0
      · subst hk0; rw [up2_ss]
      · rw [up2_si (by omega), e3 0 (by omega), if_pos (by omega)]
    unfold m_X6_even_L55
    dsimp +instances only
    rw [e4.n1, if_neg (nI_ge hk (by omega)), inB_nI (by omega) (by omega), ck_true, li_252, paidOn_s e4 hW (by omega) hk, some_bind, ck_true, nI_clamp (by omega), ek, nI_add, lett_eq, ck_true, show Int32.toNatClampNeg 0 = 0 from rfl, key, up2_ss, ifp (bI_0 _), ifp (cast_eq (by omega) (by omega)), nI_1]
    have hrows : (∀ s, s < T 0 1 → up2 z3 29 k (nI (h k + inA T k)) 29 s = nI (if s < k + 1 then h s + inA T s else h s)) := by
      intro s hs
      by_cases hsk : s = k
      · subst hsk; rw [up2_ss, if_pos (Nat.lt_succ_self s)]
      · rw [up2_si hsk, e3 s hs]
        by_cases h2 : s < k
        · rw [if_pos h2, if_pos (show s < k + 1 by omega)]
        · rw [if_neg h2, if_neg (show ¬ s < k + 1 by omega)]
    have hMn : RM (up2 z3 29 k (nI (h k + inA T k))) 252 T := RM_29 e4
    have hKn : Kp w0 (up2 z3 29 k (nI (h k + inA T k))) := e5.tr (Kp.up (.inl rfl))
    show ∃ s' : Int32 × Int32 × SV, _ = _ ∧ s'.1 = bI (allN _ k && decide (h k + inA T k = h 0 + inA T 0)) ∧ _
    cases ha : allN (fun s => decide (h s + inA T s = h 0 + inA T 0)) k
    · rw [if_pos rfl]
      exact ⟨_, rfl, rfl, rfl, hrows, hMn, hKn⟩
    · rw [if_neg (by simp)]
      by_cases hc : h k + inA T k = h 0 + inA T 0
      · rw [if_pos hc]
        exact ⟨_, rfl, by simp [hc, bI], rfl, hrows, hMn, hKn⟩
      · rw [if_neg hc]
        exact ⟨_, rfl, by simp [hc, bI], rfl, hrows, hMn, hKn⟩
  · rintro ⟨z1, z2, z3⟩ ⟨e1, e2, e3, e4, e5⟩
    dsimp only at e1 e2 e3 e4 e5
    subst e1 e2
    unfold m_X6_even_L55
    dsimp +instances only
    rw [e4.n1, if_pos (nI_le (Nat.le_refl _) (by omega))]
    exact ⟨_, rfl, rfl, e4, e5, fun s hs => by dsimp only; rw [e3 s hs, if_pos hs]⟩
theorem even6_s {w : SV} {A : AS} (hM : RM w 0 A) (hW : WF A) (hd : A 0 4 < 1000) : ∃ w', m_X6_even w = some (evA A, w') ∧ Kp w w' := by
  have hn := hW.1.n
  obtain ⟨y, h4, h5, h6, h7, -⟩ := tried_s hM hW.1 (b := 252) (by omega) (by omega)
  unfold m_X6_even
  rw [show (0 : Int32) = nI 0 from rfl, li_252, h4, some_bind]
  have hz := lp_inv (step := m_X6_even_L10) (fun k z => z.1 = nI k ∧ RM z.2 252 A ∧ Kp w z.2 ∧ ∀ s, s < k → z.2 29 s = nI 0) (fun r => RM r.2 252 A ∧ Kp w r.2 ∧ ∀ s, s < 5 → r.2 29 s = nI 0) 5 ?_ ?_ (s0 := (nI 0, y)) ⟨rfl, h5, h7, fun s hs => absurd hs (Nat.not_lt_zero s)⟩
  · obtain ⟨⟨q1, q⟩, hq, hqM, hqK, hq0⟩ := hz
    dsimp only at hqM hqK hq0
    rw [hq, some_bind]
    unfold m_X6_even_K10 evA
    dsimp only
    by_cases h0 : A 0 1 = 0
    · rw [if_pos h0]
      rw [lp_done (step := m_X6_even_L30) (s := ((1 : Int32), q)) (r := .inl ((1 : Int32), q)) (by
        unfold m_X6_even_L30
        dsimp +instances only
        rw [if_neg (by decide), hqM.n1, h0, if_pos (show nI 0 ≤ (0 : Int32) from by decide)])]
      exact ⟨q, rfl, hqK⟩
    · rw [if_neg h0]
      have := lp_inv (step := m_X6_even_L30) (fun k z => z.1 = nI (k + 1) ∧ RM z.2 252 (dyN A k) ∧ Kp w z.2 ∧ (∀ s, s < A 0 1 → z.2 29 s = nI (hdA A k s)) ∧ ∀ j, j < k → allN (fun s => decide (hdA A (j + 1) s = hdA A (j + 1) 0)) (A 0 1) = false) (fun r => ∃ v9, (Sum.elim m_X6_even_K30 (fun y => some y)) r = some (d1R (firstN (fun d => allN (fun s => decide (hdA A (d + 1) s = hdA A (d + 1) 0)) (A 0 1)) 60), v9) ∧ Kp w v9) 60 ?_ ?_ (s0 := ((1 : Int32), q)) ⟨rfl, hqM, hqK, fun s hs => hq0 s (by omega), fun j hj => absurd hj (Nat.not_lt_zero j)⟩
      · obtain ⟨r, hr, v9, hP, hQ⟩ := this
        rw [hr, some_bind, hP]
        exact ⟨v9, rfl, hQ⟩
      · rintro k ⟨z1, z2⟩ hk ⟨e1, hI, hK, h8, hno⟩
        dsimp only at e1 hI hK h8 hno
        subst e1
        have hWk := WF_dyN hW k (by omega)
        have hWk1 := WF_dyN hW (k + 1) (by omega)
        obtain ⟨v3, h11, h12, h13⟩ := dayOn_s hI hWk (by omega) (.inr (by omega))
        have e01 : dyN A (k + 1) 0 1 = A 0 1 := dyN_0 (by decide) (by decide) (k + 1)
        have hdl := fun s => hdA_le hW (d := k) (by omega) (by omega) s
        have hK3 := hK.tr (Kp.fr h13 (by omega))
        have h29 : ∀ s, s < dyN A (k + 1) 0 1 → v3 29 s = nI (hdA A k s) := fun s hs => by rw [h13.1 29 (by decide)]; exact h8 s (by rw [← e01]; exact hs)
        obtain ⟨⟨r1, r2, r3⟩, g1, g2, g3, g4, g5⟩ := paid_s (h := hdA A k) (T := dyN A (k + 1)) h12 hWk1 hK3 h29 (fun s => by have := hdl s; omega)
        dsimp only at g2 g3 g4 g5
        rw [e01] at g2 g5
        unfold m_X6_even_L30
        dsimp +instances only
        have hpos : ¬ z2 0 2 ≤ (0 : Int32) := by rw [hI.n1, dyN_0 (by decide) (by decide)]; exact nI_nle (by omega) (by omega)
        rw [show (60 : Int32) = nI 60 from rfl, if_neg (nI_nlt (by omega) (by omega)), if_neg hpos, li_252, h11, some_bind]
        dsimp +instances only
        rw [g1, some_bind]
        unfold m_X6_even_K55
        dsimp +instances only
        rw [g2, ifp (bI_0 _), nI_1]
        have hsame : (fun s => decide (hdA A k s + inA (dyN A (k + 1)) s = hdA A k 0 + inA (dyN A (k + 1)) 0)) = (fun s => decide (hdA A (k + 1) s = hdA A (k + 1) 0)) := rfl
        rw [hsame]
        cases hc : allN (fun s => decide (hdA A (k + 1) s = hdA A (k + 1) 0)) (A 0 1)
        · left
          rw [if_pos rfl]
          refine ⟨_, rfl, rfl, g3, g4, g5, ?_⟩
          intro j hj
          by_cases hjk : j = k
          · subst hjk; exact hc
          · exact hno j (by omega)
        · right
          rw [if_neg (by simp)]
          refine ⟨_, rfl, r3, ?_, g4⟩
          rw [firstN_of hk hc hno]
          rfl
      · rintro ⟨z1, z2⟩ ⟨e1, hI, hK, h8, hno⟩
        dsimp only at e1 hI hK h8 hno
        subst e1
        unfold m_X6_even_L30
        dsimp +instances only
        rw [show (60 : Int32) = nI 60 from rfl, if_pos (nI_lt (by omega) (by omega))]
        refine ⟨_, rfl, z2, ?_, hK⟩
        cases hf : firstN (fun d => allN (fun s => decide (hdA A (d + 1) s = hdA A (d + 1) 0)) (A 0 1)) 60 with
        | none => rfl
        | some j => have := firstN_some hf; rw [hno j this.1] at this; cases this.2.1
  · rintro k ⟨z1, z2⟩ hk ⟨e1, e2, e3, e4⟩
    dsimp only at e1 e2 e3 e4
    subst e1
    left
    unfold m_X6_even_L10
    dsimp +instances only
    rw [li_5, if_neg (nI_ge hk (by omega)), inB_nI (by omega) (by omega), ck_true, nI_clamp (by omega), lett_eq, nI_1]
    refine ⟨_, rfl, rfl, RM_29 e2, e3.tr (Kp.up (.inl rfl)), fun s hs => ?_⟩
    dsimp only
    by_cases hsk : s = k
    · subst hsk; rw [up2_ss]; rfl
    · rw [up2_si hsk]; exact e4 s (by omega)
  · rintro ⟨z1, z2⟩ ⟨e1, e2, e3, e4⟩
    dsimp only at e1 e2 e3 e4
    subst e1
    unfold m_X6_even_L10
    dsimp +instances only
    rw [li_5, if_pos (nI_le (Nat.le_refl _) (by omega))]
    exact ⟨_, rfl, e2, e3, e4⟩
def nOk2 (st : Option (Nat × Nat)) : Prop := ∀ bc, st = some bc → bc.2 ≤ 100
theorem nOk2_S {A : AS} {p s : Nat} (hp : p < 6) (hs : s < 6) {st : Option (Nat × Nat)} (h : nOk2 st) : nOk2 (nxS A p s st) := by
  intro bc hbc
  unfold nxS at hbc
  cases st with
  | none => cases hbc; dsimp only; omega
  | some q =>
    dsimp only at hbc
    split at hbc
    · cases hbc; dsimp only; omega
    · cases hbc; exact h _ rfl
theorem next6_s {w : SV} {A : AS} (hM : RM w 0 A) (hW : WF A) (x : Int32) : ∃ w', m_X6_next w x = some (nxR A x, w') ∧ Kp w w' := by
  have hn := hW.1.n
  unfold m_X6_next nxR
  rw [in_s (k := 2) (by decide) (by omega), some_bind]
  cases h1 : ix x 2 with
  | none => exact ⟨w, rfl, Kp.rf⟩
  | some u =>
    obtain ⟨rfl, hu⟩ := ix_some h1
    simp only [Option.isSome_some, bI, if_true, ne10, if_false]
    have := lp_inv (step := m_X6_next_L20) (fun k z => z.1 = nB (-1) (nxA A k) ∧ z.2.1 = nC (nxA A k) ∧ z.2.2.1 = nI k ∧ nOk (nxA A k) ∧ nOk2 (nxA A k) ∧ RM z.2.2.2 0 A ∧ Kp w z.2.2.2) (fun r => r.1 = nB (-1) (nxA A (A 0 0)) ∧ r.2.1 = nC (nxA A (A 0 0)) ∧ nOk2 (nxA A (A 0 0)) ∧ Kp w r.2.2.2) (A 0 0) ?_ ?_ (s0 := ((-1 : Int32), (-4 : Int32), (0 : Int32), w)) ⟨rfl, rfl, rfl, fun bc h => (by cases h), fun bc h => (by cases h), hM, Kp.rf⟩
    · obtain ⟨r, hr, e1, e2, e3, e4⟩ := this
      rw [hr, some_bind]
      unfold m_X6_next_K20
      rw [e1, e2]
      have e : (nI u = (0 : Int32)) = (u = 0) := cast_eq (b := 0) (by omega) (by omega)
      simp only [e]
      cases hst : nxA A (A 0 0) with
      | none => rw [if_pos (show nC none = -4 from rfl)]; exact ⟨_, rfl, e4⟩
      | some bc =>
        have h100 := e3 bc hst
        rw [if_neg (show ¬ nC (some bc) = -4 from by show ¬ oI (some bc.2) = -4; rw [oI_m4 (fun t ht => by cases ht; omega)]; simp)]
        dsimp only
        split <;> exact ⟨_, rfl, e4⟩
    · rintro k ⟨z1, z2, z3, z4⟩ hk ⟨e1, e2, e3, e4, e5, e6, e7⟩
      dsimp only at e1 e2 e3 e6 e7
      subst e1 e2 e3
      left
      unfold m_X6_next_L20
      dsimp +instances only
      rw [e6.n0, if_neg (nI_ge hk (by omega))]
      have := lp_inv (step := m_X6_next_L32 (nB (-1) (nxA A k), nC (nxA A k), nI k, z4)) (fun j z => z.1 = nB (-1) (nxI A k (nxA A k) j) ∧ z.2.1 = nC (nxI A k (nxA A k) j) ∧ z.2.2.1 = nI j ∧ nOk (nxI A k (nxA A k) j) ∧ nOk2 (nxI A k (nxA A k) j) ∧ RM z.2.2.2 0 A ∧ Kp w z.2.2.2) (fun r => r.1 = nB (-1) (nxA A (k + 1)) ∧ r.2.1 = nC (nxA A (k + 1)) ∧ nOk (nxA A (k + 1)) ∧ nOk2 (nxA A (k + 1)) ∧ RM r.2.2.2 0 A ∧ Kp w r.2.2.2) (A 0 1) ?_ ?_ (s0 := (nB (-1) (nxA A k), nC (nxA A k), (0 : Int32), z4)) ⟨rfl, rfl, rfl, e4, e5, e6, e7⟩
      · obtain ⟨r, hr, f1, f2, f3, f4, f5, f6⟩ := this
        rw [hr, some_bind]
        unfold m_X6_next_K32
        dsimp only
        rw [nI_1]
        exact ⟨_, rfl, f1, f2, rfl, f3, f4, f5, f6⟩
      · rintro j ⟨z1, z2, z3, z5⟩ hj ⟨g1, g2, g3, g4, g5, g6, g7⟩
        dsimp only at g1 g2 g3 g6 g7
        subst g1 g2 g3
        left
        unfold m_X6_next_L32
        dsimp +instances only
        obtain ⟨y, h4, h5, h6, h7, -⟩ := tried_s g6 hW.1 (b := 252) (by omega) (by omega)
        obtain ⟨y2, h8, h9, h10⟩ := paintsOn_s (s := j) h5 hW.1 (by omega) (.inr (by omega)) (p := k) hk
        have hWc := WF_cov hW (p := k) (s := j) (by omega) hj
        have hl := lbA_le hWc.1
        have hK := (g7.tr h7).tr (Kp.fr h10 (by omega))
        have hM2 := RM_k hW.1 h6 (Kp.fr h10 (by omega))
        rw [g6.n1, if_neg (nI_ge hj (by omega)), li_0, li_252, h4, some_bind, h8, some_bind, likeBondsOn_s h9 hWc (by omega), some_bind, nI_1, show (10 : Int32) = nI 10 from rfl, pk_mul, nI_add]
        have hok := nOk_S hW (p := k) (s := j) (by omega) hj g4
        have hok2 := nOk2_S (A := A) (p := k) (s := j) (by omega) (by omega) g5
        show ∃ s' : Int32 × Int32 × Int32 × SV, _ = _ ∧ s'.1 = nB (-1) (nxS A k j (nxI A k (nxA A k) j)) ∧ s'.2.1 = nC (nxS A k j (nxI A k (nxA A k) j)) ∧ _ = _ ∧ nOk (nxS A k j (nxI A k (nxA A k) j)) ∧ nOk2 (nxS A k j (nxI A k (nxA A k) j)) ∧ _
        generalize hst : nxI A k (nxA A k) j = st at g4 hok hok2
        unfold nxS at hok hok2 ⊢
        cases st with
        | none =>
          have : ¬ nI (lbA (covA A k j)) ≤ nB (-1) none := by
            intro h
            rw [Int32.le_iff_toInt_le, nI_toInt (by omega)] at h
            have : (nB (-1) none).toInt = -1 := rfl
            omega
          rw [if_neg this, if_neg this]
          exact ⟨_, rfl, rfl, rfl, rfl, hok, hok2, hM2, hK⟩
        | some bc =>
          have hb5 := g4 bc rfl
          have e : (nI (lbA (covA A k j)) ≤ nB (-1) (some bc)) = (lbA (covA A k j) ≤ bc.1) := cast_le (b := bc.1) (by omega) (by omega)
          rw [ifp e, ifp e, ifp e]
          dsimp only at hok hok2 ⊢
          by_cases hc : bc.1 < lbA (covA A k j)
          · rw [if_pos hc] at hok hok2
            rw [if_pos hc, if_neg (by omega), if_neg (by omega)]
            exact ⟨_, rfl, rfl, rfl, rfl, hok, hok2, hM2, hK⟩
          · rw [if_neg hc] at hok hok2
            rw [if_neg hc, if_pos (by omega), if_pos (by omega)]
            exact ⟨_, rfl, rfl, rfl, rfl, hok, hok2, hM2, hK⟩
      · rintro ⟨z1, z2, z3, z5⟩ ⟨g1, g2, g3, g4, g5, g6, g7⟩
        dsimp only at g1 g2 g3 g6 g7
        subst g1 g2 g3
        unfold m_X6_next_L32
        dsimp +instances only
        rw [g6.n1, if_pos (nI_le (Nat.le_refl _) (by omega))]
        exact ⟨_, rfl, rfl, rfl, g4, g5, g6, g7⟩
    · rintro ⟨z1, z2, z3, z4⟩ ⟨e1, e2, e3, e4, e5, e6, e7⟩
      dsimp only at e1 e2 e3 e6 e7
      subst e1 e2 e3
      unfold m_X6_next_L20
      dsimp +instances only
      rw [e6.n0, if_pos (nI_le (Nat.le_refl _) (by omega))]
      exact ⟨_, rfl, rfl, rfl, e5, e7⟩
theorem value6_s {w : SV} {A : AS} (hM : RM w 0 A) (hW : WF A) (x : Int32) : m_X6_value w x = some (vaA A x) := by
  have hn := hW.1.n
  have h2 := p2_5 (n := A 0 1) (by omega)
  unfold m_X6_value vaA
  rw [hM.n1, b_ev (by omega), in_s (k := 2 ^ A 0 1) (by rw [nI_64 (by omega)]; omega) (by omega), some_bind]
  cases h1 : ix x (2 ^ A 0 1) with
  | none => rfl
  | some m =>
    obtain ⟨rfl, hm⟩ := ix_some h1
    simp only [Option.isSome_some, bI, if_true, ne10, if_false]
    rw [li_0, valueOn_s hM hW (by omega) (by omega), some_bind]
theorem draws_s {w : SV} {n : Nat} (h0 : 0 < n) (hn : n < 2 ^ 31) : m_X6_draws w (nI n) = some (nI (dwN (flI (w 0 34)) % n), up2 w 0 34 (flI (w 0 34))) := by
  have hl := dwN_lt (flI (w 0 34))
  unfold m_X6_draws
  rw [lett_eq, show dvB (nI n) = true from decide_eq_true (nI_ne0 h0 hn), ck_true, up2_ss]
  show some (((flI (w 0 34) >>> ((16 : Int32) &&& 31)) &&& (32767 : Int32)) - ((flI (w 0 34) >>> ((16 : Int32) &&& 31)) &&& (32767 : Int32)) / nI n * nI n, up2 w 0 34 (flI (w 0 34))) = _
  rw [asr_s, pk_rem (by omega) h0 hn]
theorem RM_34 {w : SV} {pg : Nat} {x : Int32} {A : AS} (hM : RM w pg A) : RM (up2 w 0 34 x) pg A := RM_x hM (fun j _ => by rw [up2_si (by omega)]) (up2_n (by decide)) (up2_n (by decide)) (up2_n (by decide))
theorem Kp_34 {w : SV} {x : Int32} : Kp w (up2 w 0 34 x) := ⟨fun k k0 _ _ _ _ => up2_n k0, fun j hj => up2_si hj, fun i _ => by rw [up2_n (by decide)]⟩
theorem drift6_s {w : SV} {A : AS} (hM : RM w 0 A) (hW : WF A) (x1 x2 x3 : Int32) : ∃ w', m_X6_drift w x1 x2 x3 = some (drR A x1 x2 x3, w') ∧ Kp w w' := by
  have hn := hW.1.n
  unfold m_X6_drift drR
  rw [in1_s (k := 61) (by decide), some_bind, in_s (k := 2) (by decide) (by omega)]
  cases h1 : ix1 x2 61 with
  | none => exact ⟨w, rfl, Kp.rf⟩
  | some n =>
    obtain ⟨rfl, hn1, hn2⟩ := ix1_some h1
    simp only [Option.isSome_some, bI, if_true, ne10, if_false, some_bind]
    cases h2 : ix x3 2 with
    | none => exact ⟨w, rfl, Kp.rf⟩
    | some u =>
      obtain ⟨rfl, hu⟩ := ix_some h2
      simp only [Option.isSome_some, if_true, ne10, if_false]
      rw [hM.n1, show (0 : Int32) = nI 0 from rfl, ifp (cast_eq (by omega) (by omega))]
      by_cases h0 : A 0 1 = 0
      · rw [if_pos h0, if_pos h0]; exact ⟨_, rfl, Kp.rf⟩
      · rw [if_neg h0, if_neg h0]
        obtain ⟨y, h4, h5, h6, h7, -⟩ := tried_s hM hW.1 (b := 252) (by omega) (by omega)
        rw [li_252, h4, some_bind, lett_eq]
        have := lp_inv (step := m_X6_drift_L50 (nI n)) (fun k z => z.1 = nI k ∧ RM z.2 252 (drN A x1 k).2 ∧ z.2 0 34 = (drN A x1 k).1 ∧ Kp w z.2) (fun r => RM r.2 252 (drN A x1 n).2 ∧ Kp w r.2) n ?_ ?_ (s0 := (nI 0, up2 y 0 34 x1)) ⟨rfl, RM_34 h5, by dsimp only; rw [up2_ss]; rfl, h7.tr Kp_34⟩
        · obtain ⟨⟨r1, r⟩, hr, hP, hK⟩ := this
          dsimp only at hP hK
          obtain ⟨w1, w2, w3⟩ := drN_ok hW h0 x1 n
          have h25 := p2_5 (n := A 0 1) (by omega)
          rw [hr, some_bind]
          unfold m_X6_drift_K50
          dsimp +instances only
          rw [ifp (show (nI u = (0 : Int32)) = (u = 0) from cast_eq (b := 0) (by omega) (by omega)), hP.n1, w2, b_ev (by omega), li_252, valueOn_s hP w1 (by omega) (by omega), some_bind, likeBondsOn_s hP w1 (by omega), some_bind]
          by_cases hw0 : u = 0
          · rw [if_pos hw0, if_pos hw0]; exact ⟨_, rfl, hK⟩
          · rw [if_neg hw0, if_neg hw0]; exact ⟨_, rfl, hK⟩
        · rintro k ⟨z1, z2⟩ hk ⟨e1, hI, hz, hK⟩
          dsimp only at e1 hI hz hK
          subst e1
          left
          obtain ⟨w1, w2, w3⟩ := drN_ok hW h0 x1 k
          have m1 := Nat.mod_lt (dwN (flI (drN A x1 k).1)) (show A 0 0 > 0 by omega)
          unfold m_X6_drift_L50
          dsimp +instances only
          rw [if_neg (nI_ge hk (by omega)), hI.n0, w2, draws_s (by omega) (by omega), some_bind]
          dsimp +instances only
          rw [up2_si (by decide), hI.n1, w2, draws_s (by omega) (by omega), some_bind]
          dsimp +instances only
          rw [up2_ss, hz]
          obtain ⟨v9, g6, g7, g8⟩ := paintsOn_s (s := dwN (flI (flI (drN A x1 k).1)) % A 0 1) (RM_34 (x := flI (flI (drN A x1 k).1)) (RM_34 (x := flI (drN A x1 k).1) hI)) w1.1 (by omega) (.inr (by omega)) (p := dwN (flI (drN A x1 k).1) % A 0 0) (by rw [w2]; exact m1)
          rw [li_252, g6, some_bind, nI_1]
          refine ⟨_, rfl, rfl, g7, ?_, ((hK.tr Kp_34).tr Kp_34).tr (Kp.fr g8 (by omega))⟩
          dsimp only
          rw [g8.1 0 (by decide), up2_ss]
          rfl
        · rintro ⟨z1, z2⟩ ⟨e1, hI, hz, hK⟩
          dsimp only at e1 hI hz hK
          subst e1
          unfold m_X6_drift_L50
          dsimp +instances only
          rw [if_pos (nI_le (Nat.le_refl _) (by omega))]
          exact ⟨_, rfl, hI, hK⟩
