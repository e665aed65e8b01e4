/-! ===== PURE: ask: the class's side ===== -/
def mkN (fig : Nat → Nat) (x D p q : Nat) : Nat := if q < D then (if fig p = fig q then popN x else 0) else (if x.testBit (fig p) then 1 else 0)
theorem markSame_s {v : SV} (u w7 : SV) {D x n : Nat} {fig : Nat → Nat} {f : Nat → Int32} {F : Nat → Nat → Nat} (h6 : v 0 6 = nI D) (hD : D < 6) (hn : n ≤ 5) (hx : x < 32) (h8 : ∀ i, i < D → v 8 i = nI (fig i) ∧ fig i < n) (hf : ∀ p q, p < q → q ≤ D → f (p * 6 + q) = nI (F p q)) : ∃ g, m_X4_markSame v u w7 36 f (nI x) = some g ∧ ∀ p q, p < q → q ≤ D → g (p * 6 + q) = nI (F p q + mkN fig x D p q) := by
  unfold m_X4_markSame
  rw [bitCount_s x (by omega), some_bind]
  have := lp_inv (step := m_X4_markSame_L8 v 36 (nI x) (nI (popN x))) (fun k z => z.1 = nI k ∧ ∀ p q, p < q → q ≤ D → z.2 (p * 6 + q) = nI (F p q + if p < k then mkN fig x D p q else 0)) (fun r => ∀ p q, p < q → q ≤ D → r.2 (p * 6 + q) = nI (F p q + mkN fig x D p q)) D ?_ ?_ (s0 := ((0 : Int32), f)) ⟨rfl, fun p q h1 h2 => by dsimp only; rw [if_neg (Nat.not_lt_zero p), Nat.add_zero]; exact hf p q h1 h2⟩
  · obtain ⟨r, hr, h1⟩ := this
    rw [hr, some_bind]
    exact ⟨_, rfl, h1⟩
  · rintro k ⟨z1, z2⟩ hk ⟨e1, e2⟩
    dsimp only at e1 e2
    subst e1
    left
    obtain ⟨k8, kf⟩ := h8 k hk
    unfold m_X4_markSame_L8
    dsimp +instances only
    rw [h6, if_neg (nI_ge hk (by omega)), nI_1]
    have hi := lp_inv (step := m_X4_markSame_L23 v 36 (nI (popN x)) (nI k, z2)) (fun j z => z.1 = nI (k + 1 + j) ∧ ∀ p q, p < q → q ≤ D → z.2 (p * 6 + q) = nI (F p q + if p < k ∨ (p = k ∧ q < k + 1 + j) then mkN fig x D p q else 0)) (fun r => ∀ p q, p < q → q ≤ D → r.2 (p * 6 + q) = nI (F p q + if p < k ∨ (p = k ∧ q < D) then mkN fig x D p q else 0)) (D - (k + 1)) ?_ ?_ (s0 := (nI (k + 1), z2)) ⟨rfl, fun p q h1 h2 => by
      dsimp only
      rw [e2 p q h1 h2]
      by_cases hc : p < k
      · rw [if_pos hc, if_pos (.inl hc)]
      · rw [if_neg hc, if_neg (by omega)]⟩
    · obtain ⟨⟨r1, r⟩, hr, h1⟩ := hi
      dsimp only at h1
      rw [hr, some_bind]
      unfold m_X4_markSame_K23
      dsimp +instances only
      rw [h6, li_6, pk_mul, nI_add, inB_nI (by omega) (by omega), inB_nI (by omega) (by omega)]
      simp only [ck_true, lett_eq]
      rw [nI_clamp (by omega), nI_clamp (by omega), k8, b_bit (by omega) (by omega), nI_1, h1 k D hk (Nat.le_refl _), if_neg (by omega), nI_add, Nat.add_zero]
      refine ⟨_, rfl, rfl, fun p q h2 h3 => ?_⟩
      dsimp only
      unfold upd
      by_cases hc : p = k ∧ q = D
      · obtain ⟨rfl, rfl⟩ := hc
        rw [if_pos rfl, if_pos (Nat.lt_succ_self p)]
        unfold mkN
        rw [if_neg (Nat.lt_irrefl q), Nat.add_zero]
      · rw [if_neg (by omega), h1 p q h2 h3]
        by_cases hc2 : p < k ∨ (p = k ∧ q < D)
        · rw [if_pos hc2, if_pos (show p < k + 1 by omega)]
        · rw [if_neg hc2, if_neg (by omega)]
    · rintro j ⟨y1, y2⟩ hj ⟨d1, d2⟩
      dsimp only at d1 d2
      subst d1
      left
      obtain ⟨j8, jf⟩ := h8 (k + 1 + j) (by omega)
      unfold m_X4_markSame_L23
      dsimp +instances only
      rw [h6, if_neg (nI_ge (by omega) (by omega)), inB_nI (by omega) (by omega), inB_nI (by omega) (by omega)]
      simp only [ck_true]
      rw [nI_clamp (by omega), nI_clamp (by omega), k8, j8, ifp (cast_eq (by omega) (by omega)), li_6, pk_mul, nI_add, inB_nI (by omega) (by omega)]
      simp only [ck_true, lett_eq]
      rw [nI_clamp (by omega), d2 k (k + 1 + j) (by omega) (by omega), if_neg (show ¬ (k < k ∨ (k = k ∧ k + 1 + j < k + 1 + j)) by omega), Nat.add_zero, nI_add, nI_1]
      have hmk : mkN fig x D k (k + 1 + j) = if fig k = fig (k + 1 + j) then popN x else 0 := by
        unfold mkN
        rw [if_pos (by omega)]
      by_cases hc : fig k = fig (k + 1 + j)
      · rw [if_pos hc] at hmk
        rw [if_pos hc, ← hmk]
        refine ⟨_, rfl, rfl, fun p q h2 h3 => ?_⟩
        dsimp only
        unfold upd
        by_cases hpq : p = k ∧ q = k + 1 + j
        · obtain ⟨rfl, rfl⟩ := hpq
          rw [if_pos rfl, if_pos (.inr ⟨rfl, by omega⟩), Nat.add_zero]
        · rw [if_neg (by omega), d2 p q h2 h3]
          by_cases hc2 : p < k ∨ (p = k ∧ q < k + 1 + j)
          · rw [if_pos hc2, if_pos (by omega)]
          · rw [if_neg hc2, if_neg (by omega)]
      · rw [if_neg hc] at hmk
        rw [if_neg hc]
        refine ⟨_, rfl, rfl, fun p q h2 h3 => ?_⟩
        dsimp only
        rw [d2 p q h2 h3]
        by_cases hpq : p = k ∧ q = k + 1 + j
        · obtain ⟨rfl, rfl⟩ := hpq
          rw [if_neg (by omega), if_pos (.inr ⟨rfl, by omega⟩), hmk]
        · by_cases hc2 : p < k ∨ (p = k ∧ q < k + 1 + j)
          · rw [if_pos hc2, if_pos (by omega)]
          · rw [if_neg hc2, if_neg (by omega)]
    · rintro ⟨y1, y2⟩ ⟨d1, d2⟩
      dsimp only at d1 d2
      subst d1
      unfold m_X4_markSame_L23
      dsimp +instances only
      rw [h6, if_pos (nI_le (by omega) (by omega))]
      refine ⟨_, rfl, fun p q h2 h3 => ?_⟩
      dsimp only
      rw [d2 p q h2 h3]
      by_cases hc : p < k ∨ (p = k ∧ q < D)
      · rw [if_pos hc, if_pos (by omega)]
      · rw [if_neg hc, if_neg (by omega)]
  · rintro ⟨z1, z2⟩ ⟨e1, e2⟩
    dsimp only at e1 e2
    subst e1
    unfold m_X4_markSame_L8
    dsimp +instances only
    rw [h6, if_pos (nI_le (Nat.le_refl _) (by omega))]
    refine ⟨_, rfl, fun p q h2 h3 => ?_⟩
    dsimp only
    rw [e2 p q h2 h3, if_pos (by omega)]
def smW (A S : AS) (h q b D : Nat) (pr : Nat → Nat → Nat) (i j c : Nat) : Nat := if okCb A S h q b D pr c then mkN (dg (A 0 1) D c) (awM A S h (dg (A 0 1) D c) D) D i j else 0
theorem countSame_L {u w7 w : SV} {A S : AS} {h q b D : Nat} {pr : Nat → Nat → Nat} (hR : RepC u A) (hW : WF A) (hS : RepN w7 w S A) (hh : h ≤ S 0 0) (hq : q ≤ 6) (hb : b ≤ 1000) (hpr : ∀ p s, pr p s ≤ 81) (hD1 : 1 ≤ D) (hD : D < A 0 0) : ∀ M turn v F f, WA v A S h q b D pr F M → turn + M < 1000000 → F ≤ A 0 1 ^ D → (∀ i j, i < j → j ≤ D → f (i * 6 + j) = nI (sumN (smW A S h q b D pr i j) F)) → ∃ r, lpC (m_X4_countSame_L22 u w7 36) (nI (sumN (cnW A S h q b D pr) F), nI turn, v, f) = some r ∧ r.1 = nI (sumN (cnW A S h q b D pr) (A 0 1 ^ D)) ∧ WC r.2.2.1 A h q b D pr ∧ ∀ i j, i < j → j ≤ D → r.2.2.2 (i * 6 + j) = nI (sumN (smW A S h q b D pr i j) (A 0 1 ^ D)) := by
  have hn := hW.1.n
  intro M
  induction M with
  | zero =>
    intro turn v F f hA
    obtain ⟨-, p, fig, fp, -, -, -, -, -, hRem⟩ := hA
    unfold RemN at hRem
    omega
  | succ M ih =>
    intro turn v F f hA ht hF hfs
    rcases adv_A hR hW hS hh hq hb hpr hD1 (by omega) hA (by omega) with ⟨v', a1, a2, a3⟩ | ⟨v', fig, M', a1, a2, a3, a4, a5, a6⟩
    · refine ⟨(nI (sumN (cnW A S h q b D pr) F), nI turn, v', f), lp_done ?_, ?_, a2, fun i j h1 h2 => ?_⟩
      · unfold m_X4_countSame_L22
        dsimp +instances only
        rw [show (1000000 : Int32) = nI 1000000 from rfl, if_neg (nI_ge (by omega) (by omega)), a1, some_bind, if_pos rfl]
      · rw [sumN_ext (a := F) _ hF (fun k h1 h2 => by unfold cnW; rw [okCb_f (a3 k h1 h2)]; rfl)]
      · rw [sumN_ext (a := F) _ hF (fun k h3 h4 => by unfold smW; rw [okCb_f (a3 k h3 h4)]; rfl)]
        exact hfs i j h1 h2
    · have hf := fun i hi => (a2.2.2.1 i hi).2
      have hlD : nuN (A 0 1) fig D < A 0 1 ^ D := nuN_lt D hf
      have haw : m_X4_allowedAt v' u w7 (v' 0 6) = some (nI (awM A S h fig D)) := by
        rw [a2.1.2.2.2.1]
        exact allowedAt_s hR hW hS hh a2.1.1 a2.1.2.2.2.2.1 a2.2.2.1 hD
      have haw32 : awM A S h fig D < 32 := orN_lt32 _ (by omega)
      have e1 : awM A S h (dg (A 0 1) D (nuN (A 0 1) fig D)) D = awM A S h fig D := awM_fig hW hS hh hf
      have e := okCb_iff.mpr (okC_fig hW hS hh a2)
      obtain ⟨g, g1, g2⟩ := markSame_s u w7 a2.1.2.2.2.1 (by omega) (show A 0 1 ≤ 5 by omega) haw32 a2.2.2.1 hfs
      have hst : m_X4_countSame_L22 u w7 36 (nI (sumN (cnW A S h q b D pr) F), nI turn, v, f) = some (.inl (nI (sumN (cnW A S h q b D pr) (nuN (A 0 1) fig D + 1)), nI (turn + 1), v', g)) := by
        unfold m_X4_countSame_L22
        dsimp +instances only
        rw [show (1000000 : Int32) = nI 1000000 from rfl, if_neg (nI_ge (by omega) (by omega)), a1, some_bind]
        dsimp +instances only
        rw [if_neg (show ¬ (1 : Int32) = 0 from by decide), haw, some_bind, bitCount_s _ (by omega), some_bind, g1, some_bind, nI_add, nI_1, sumN, sumN_ext (a := F) _ a3 (fun k h1 h2 => by unfold cnW; rw [okCb_f (a4 k h1 h2)]; rfl)]
        have e3 : cnW A S h q b D pr (nuN (A 0 1) fig D) = popN (awM A S h fig D) := by
          unfold cnW
          rw [e, if_pos rfl, e1]
        rw [e3]
      have hg : ∀ i j, i < j → j ≤ D → g (i * 6 + j) = nI (sumN (smW A S h q b D pr i j) (nuN (A 0 1) fig D + 1)) := by
        intro i j h1 h2
        rw [g2 i j h1 h2, sumN, sumN_ext (a := F) _ a3 (fun k h3 h4 => by unfold smW; rw [okCb_f (a4 k h3 h4)]; rfl)]
        have e3 : smW A S h q b D pr i j (nuN (A 0 1) fig D) = mkN fig (awM A S h fig D) D i j := by
          unfold smW
          rw [e, if_pos rfl, e1]
          unfold mkN
          rw [dg_nu hf i (by omega)]
          by_cases hj : j < D
          · rw [if_pos hj, if_pos hj, dg_nu hf j hj]
          · rw [if_neg hj, if_neg hj]
        rw [e3]
      obtain ⟨r, hr, h1, h2⟩ := ih (turn + 1) v' (nuN (A 0 1) fig D + 1) g ⟨a5.1, by obtain ⟨p, fig, fp, b1, b2, b3, b4, b5, b6⟩ := a5.2; exact ⟨p, fig, fp, b1, b2, b3, b4, b5, by omega⟩⟩ (by omega) hlD hg
      exact ⟨r, by rw [lp_next hst]; exact hr, h1, h2⟩
theorem smW_full {w7 w : SV} {A S : AS} {i j : Nat} (hW : WF A) (hS : RepN w7 w S A) (hij : i < j) (hj : j < A 0 0) : sumN (smW A S (S 0 0) 6 1000 (A 0 0 - 1) (fun _ _ => 0) i j) (A 0 1 ^ (A 0 0 - 1)) = sumN (fun c => if poB A S c then alK6 (A 0 0) (dg (A 0 1) (A 0 0) c) (6 * i + j) else 0) (A 0 1 ^ A 0 0) := by
  have hn := hW.1.n
  rw [show A 0 1 ^ A 0 0 = A 0 1 ^ (A 0 0 - 1) * A 0 1 from by rw [← Nat.pow_succ]; congr 1; omega, sumN_mul2]
  refine sumN_congr _ (fun c _ => ?_)
  have hterm : ∀ s, s < A 0 1 → (if poB A S (c * A 0 1 + s) then alK6 (A 0 0) (dg (A 0 1) (A 0 0) (c * A 0 1 + s)) (6 * i + j) else 0) = (if okCb A S (S 0 0) 6 1000 (A 0 0 - 1) (fun _ _ => 0) c && okS A S (S 0 0) (dg (A 0 1) (A 0 0 - 1) c) (A 0 0 - 1) s then (if dg (A 0 1) (A 0 0) (c * A 0 1 + s) i = dg (A 0 1) (A 0 0) (c * A 0 1 + s) j then 1 else 0) else 0) := by
    intro s hs
    have hpo : strB A S (S 0 0) (c * A 0 1 + s) = poB A S (c * A 0 1 + s) := strB_eq hW hS (Nat.le_refl _)
    rw [← hpo, strB_up hW hS (Nat.le_refl _) hs]
    unfold alK6
    rw [show (6 * i + j) / 6 = i by omega, show (6 * i + j) % 6 = j by omega]
    by_cases hd : dg (A 0 1) (A 0 0) (c * A 0 1 + s) i = dg (A 0 1) (A 0 0) (c * A 0 1 + s) j
    · rw [if_pos (show i < A 0 0 ∧ j < A 0 0 ∧ dg (A 0 1) (A 0 0) (c * A 0 1 + s) i = dg (A 0 1) (A 0 0) (c * A 0 1 + s) j from ⟨by omega, hj, hd⟩), if_pos hd]
    · rw [if_neg (show ¬ (i < A 0 0 ∧ j < A 0 0 ∧ dg (A 0 1) (A 0 0) (c * A 0 1 + s) i = dg (A 0 1) (A 0 0) (c * A 0 1 + s) j) from fun h => hd h.2.2), if_neg hd]
  rw [sumN_congr (A 0 1) hterm]
  unfold smW
  cases okCb A S (S 0 0) 6 1000 (A 0 0 - 1) (fun _ _ => 0) c with
  | false =>
    have := sumN_leN (f := fun s => if (false && okS A S (S 0 0) (dg (A 0 1) (A 0 0 - 1) c) (A 0 0 - 1) s) = true then (if dg (A 0 1) (A 0 0) (c * A 0 1 + s) i = dg (A 0 1) (A 0 0) (c * A 0 1 + s) j then 1 else 0) else 0) (b := 0) (A 0 1) (fun _ _ => by simp)
    rw [if_neg (by simp)]
    omega
  | true =>
    rw [if_pos rfl]
    simp only [Bool.true_and]
    unfold mkN
    by_cases hjD : j < A 0 0 - 1
    · rw [if_pos hjD]
      unfold awM
      rw [popN_orN _ (by omega)]
      by_cases hd : dg (A 0 1) (A 0 0 - 1) c i = dg (A 0 1) (A 0 0 - 1) c j
      · rw [if_pos hd]
        refine sumN_congr _ (fun s hs => ?_)
        rw [dg_up hs (by omega), dg_up hs hjD, if_pos hd]
      · rw [if_neg hd]
        have := sumN_leN (f := fun s => if okS A S (S 0 0) (dg (A 0 1) (A 0 0 - 1) c) (A 0 0 - 1) s = true then (if dg (A 0 1) (A 0 0) (c * A 0 1 + s) i = dg (A 0 1) (A 0 0) (c * A 0 1 + s) j then 1 else 0) else 0) (b := 0) (A 0 1) (fun s hs => by rw [dg_up hs (by omega), dg_up hs hjD, if_neg hd]; simp)
        omega
    · rw [if_neg hjD]
      have hjE : j = A 0 0 - 1 := by omega
      subst hjE
      have hterm2 : ∀ s, s < A 0 1 → (if okS A S (S 0 0) (dg (A 0 1) (A 0 0 - 1) c) (A 0 0 - 1) s then (if dg (A 0 1) (A 0 0) (c * A 0 1 + s) i = dg (A 0 1) (A 0 0) (c * A 0 1 + s) (A 0 0 - 1) then 1 else 0) else 0) = (if s = dg (A 0 1) (A 0 0 - 1) c i then (if okS A S (S 0 0) (dg (A 0 1) (A 0 0 - 1) c) (A 0 0 - 1) s then 1 else 0) else 0) := by
        intro s hs
        rw [dg_up hs hij, dg_last hs]
        by_cases hd : dg (A 0 1) (A 0 0 - 1) c i = s
        · rw [if_pos hd, if_pos hd.symm]
        · rw [if_neg hd, if_neg (show ¬ s = dg (A 0 1) (A 0 0 - 1) c i from fun h => hd h.symm)]; simp
      rw [sumN_congr (A 0 1) hterm2]
      have hone : ∀ (g : Nat → Nat) (d n : Nat), sumN (fun s => if s = d then g s else 0) n = if d < n then g d else 0 := by
        intro g d n
        induction n with
        | zero => rfl
        | succ n ih =>
          rw [sumN, ih]
          by_cases hdn : n = d
          · subst hdn; rw [if_pos rfl, if_neg (Nat.lt_irrefl n), if_pos (Nat.lt_succ_self n), Nat.zero_add]
          · rw [if_neg hdn]
            by_cases h9 : d < n
            · rw [if_pos h9, if_pos (show d < n + 1 by omega), Nat.add_zero]
            · rw [if_neg h9, if_neg (show ¬ d < n + 1 by omega)]
      rw [hone]
      unfold awM
      rw [orN_tb]
      by_cases hd : dg (A 0 1) (A 0 0 - 1) c i < A 0 1
      · rw [if_pos hd, decide_eq_true hd, Bool.true_and]
      · rw [if_neg hd, decide_eq_false hd, Bool.false_and]; simp
theorem ask_b {v0 v1 v7 v8 w : SV} {A S : AS} (hR : RepC v1 A) (hW : WF A) (hM : RM w 0 A) (hS : RepN v7 w S A) (h10 : v8 10 0 = nI 0) (x : Int32) : ∃ a v0' v8' w', m_X5_ask v0 v1 v7 v8 x = some (a, v0', v8') ∧ m_X6_ask w x = some (a, w') ∧ (∀ r, r ≠ 9 → v0' r = v0 r) ∧ v8' 10 0 = nI 0 ∧ Kp w w' := by
  have hn := hW.1.n
  cases hx : ix x 2 with
  | none =>
    unfold m_X5_ask m_X6_ask
    rw [within_s (k := 2) (by decide) (by omega), in_s (k := 2) (by decide) (by omega), some_bind, some_bind, hx]
    exact ⟨_, v0, v8, w, rfl, rfl, fun _ _ => rfl, h10, Kp.rf⟩
  | some u =>
    obtain ⟨rfl, hu⟩ := ix_some hx
    obtain ⟨w', d1, d2⟩ := ask6_s hM hW hS hu
    obtain ⟨vb, b1, b2, b3, b4, b5⟩ := begin_s hR hW hS h10 true (fun _ => 0) (fun _ _ => 0)
    rw [if_pos rfl] at b2 b5
    have hA : WA (up2 vb 0 6 (nI (A 0 0 - 1))) A S (S 0 0) 6 1000 (A 0 0 - 1) (fun _ _ => 0) 0 30000 := WA_begin (by omega) (by omega) (by omega) (WC_D b2) (by rw [up2_si (by decide)]; exact b3) (by rw [up2_n (by decide)]; exact b4) (by rw [up2_n (by decide)]; exact b5)
    obtain ⟨⟨r1, r2, r3, r4⟩, hr, h1, h2, h3⟩ := countSame_L hR hW hS (Nat.le_refl _) (by omega) (by omega) (fun _ _ => by omega) (by omega) (by omega) 30000 0 _ 0 (fun i => if i < 36 then (0 : Int32) else v0 9 i) hA (by omega) (Nat.zero_le _) (fun i j hij hj => by rw [if_pos (by omega)]; rfl)
    dsimp only at h1 h2 h3
    have hpo : ∀ c, strB A S (S 0 0) c = poB A S c := fun c => strB_eq hW hS (Nat.le_refl _)
    have hall := cnt_le (poB A S) (A 0 1 ^ A 0 0)
    have hpic := pic_le hW.1 (Nat.le_refl (A 0 0))
    rw [cnW_full hW hS (Nat.le_refl _), sumN_congr (g := fun c => if poB A S c then 1 else 0) (A 0 1 ^ A 0 0) (fun c _ => by rw [hpo])] at h1
    have hsm : ∀ j, sumN (fun c => if poB A S c then alK6 (A 0 0) (dg (A 0 1) (A 0 0) c) j else 0) (A 0 1 ^ A 0 0) ≤ sumN (fun c => if poB A S c then 1 else 0) (A 0 1 ^ A 0 0) := by
      intro j
      generalize A 0 1 ^ A 0 0 = N
      induction N with
      | zero => exact Nat.le_refl _
      | succ N ih =>
        rw [sumN, sumN]
        have : (if poB A S N then alK6 (A 0 0) (dg (A 0 1) (A 0 0) N) j else 0) ≤ (if poB A S N then 1 else 0) := by
          split
          · unfold alK6; split <;> omega
          · exact Nat.le_refl _
        omega
    generalize hallE : sumN (fun c => if poB A S c then 1 else 0) (A 0 1 ^ A 0 0) = all at hall hsm h1 d1
    generalize hsmE : (fun p q => sumN (fun c => if poB A S c then alK6 (A 0 0) (dg (A 0 1) (A 0 0) c) (6 * p + q) else 0) (A 0 1 ^ A 0 0)) = sm at d1
    have g5 : ∀ p q, p < q → q < A 0 0 → r4 (p * 6 + q) = nI (sm p q) ∧ sm p q ≤ all := fun p q hp hq => by
      rw [← hsmE]
      exact ⟨by rw [h3 p q hp (by omega), smW_full hW hS hp hq], hsm _⟩
    have hcs : m_X4_countSame vb v1 v7 36 (v0 9) = some (nI all, r3, r4) := by
      unfold m_X4_countSame
      rw [fill_s (by omega), some_bind, hR.n (j := 0) (by omega), li_1, pk_sub (by omega), lett_eq]
      show (lpC _ (nI (sumN (cnW A S (S 0 0) 6 1000 (A 0 0 - 1) (fun _ _ => 0)) 0), nI 0, _, _)).bind _ = _
      rw [hr, some_bind]
      unfold m_X4_countSame_K22
      rw [h1]
    unfold m_X5_ask
    rw [within_s (k := 2) (by decide) (by omega), some_bind, hx, Option.isSome_some, if_neg (by decide), show (1 : Int32) = bI true from rfl, b1, some_bind, hcs, some_bind, lett_eq]
    dsimp only
    have h4 := lp_inv (step := m_X5_ask_L40 v1 (nI all, r3, r4) (upr v0 9 r4)) (fun p z => z.2.2 = nI p ∧ z.1 = nI (akA all sm (A 0 0) p).1 ∧ z.2.1 = oI (akA all sm (A 0 0) p).2 ∧ akOk all (akA all sm (A 0 0) p)) (fun q => q.1 = nI (akA all sm (A 0 0) (A 0 0)).1 ∧ q.2.1 = oI (akA all sm (A 0 0) (A 0 0)).2 ∧ akOk all (akA all sm (A 0 0) (A 0 0))) (A 0 0) ?_ ?_ (s0 := (nI all, (-4 : Int32), (0 : Int32))) ⟨rfl, rfl, rfl, Nat.le_refl _, fun c h => by cases h⟩
    · obtain ⟨⟨q1, q2, q3⟩, hq, f1, f2, f3⟩ := h4
      dsimp only at f1 f2
      subst f1 f2
      rw [hq, some_bind]
      unfold m_X5_ask_K40
      dsimp +instances only
      refine ⟨akR u (akA all sm (A 0 0) (A 0 0)), upr v0 9 r4, r3, w', ?_, d1, fun r hr => upr_n hr, h2.2.2.2.2.2.2, d2⟩
      unfold akR
      cases hst : (akA all sm (A 0 0) (A 0 0)).2 with
      | none => rw [if_pos (show oI none = -4 from rfl)]; rfl
      | some c =>
        have := f3.2 c hst
        rw [if_neg (show ¬ oI (some c) = -4 by rw [oI_m4 (fun t ht => by cases ht; omega)]; simp), ifp (show (nI u = (0 : Int32)) = (u = 0) from cast_eq (b := 0) (by omega) (by omega))]
        dsimp only
        split <;> rfl
    · rintro p ⟨z1, z2, z3⟩ hp ⟨e3, e1, e2, e4⟩
      dsimp only at e1 e2 e3
      subst e1 e2 e3
      left
      unfold m_X5_ask_L40
      dsimp +instances only
      rw [hR.n (j := 0) (by omega), if_neg (nI_ge hp (by omega)), nI_1]
      have h6 := lp_inv (step := m_X5_ask_L58 v1 (nI all, r3, r4) (upr v0 9 r4) (nI (akA all sm (A 0 0) p).1, oI (akA all sm (A 0 0) p).2, nI p)) (fun j z => z.2.2 = nI (p + 1 + j) ∧ z.1 = nI (akI all sm p (akA all sm (A 0 0) p) j).1 ∧ z.2.1 = oI (akI all sm p (akA all sm (A 0 0) p) j).2 ∧ akOk all (akI all sm p (akA all sm (A 0 0) p) j)) (fun q => q.1 = nI (akA all sm (A 0 0) (p + 1)).1 ∧ q.2.1 = oI (akA all sm (A 0 0) (p + 1)).2 ∧ akOk all (akA all sm (A 0 0) (p + 1))) (A 0 0 - (p + 1)) ?_ ?_ (s0 := (nI (akA all sm (A 0 0) p).1, oI (akA all sm (A 0 0) p).2, nI (p + 1))) ⟨rfl, rfl, rfl, e4⟩
      · obtain ⟨⟨q1, q2, q3⟩, hq, f1, f2, f3⟩ := h6
        dsimp only at f1 f2
        rw [hq, some_bind]
        unfold m_X5_ask_K58
        exact ⟨_, rfl, nI_1 p, f1, f2, f3⟩
      · rintro j ⟨z1, z2, z3⟩ hj ⟨t3, t1, t2, t4⟩
        dsimp only at t1 t2 t3
        subst t1 t2 t3
        left
        obtain ⟨k1, k2⟩ := g5 p (p + 1 + j) (by omega) (by omega)
        have hok := akOk_S (sm := sm) t4 (p := p) (q := p + 1 + j) (by omega) (by omega)
        have hmx : mxN (sm p (p + 1 + j)) (all - sm p (p + 1 + j)) ≤ all := by unfold mxN; split <;> omega
        have hle := t4.1
        unfold m_X5_ask_L58
        dsimp +instances only
        rw [hR.n (j := 0) (by omega), if_neg (nI_ge (by omega) (by omega)), li_6, pk_mul, nI_add, inB_nI (by omega) (by omega), ck_true, nI_clamp (by omega), upr_s, k1, pk_sub k2, mx_s (by omega) (by omega), ifp (cast_le (by omega) (by omega)), nI_1, show (10 : Int32) = nI 10 from rfl, pk_mul, nI_add]
        show ∃ s' : Int32 × Int32 × Int32, _ = _ ∧ s'.2.2 = nI (p + 1 + (j + 1)) ∧ s'.1 = nI (akS all sm p (p + 1 + j) (akI all sm p (akA all sm (A 0 0) p) j)).1 ∧ s'.2.1 = oI (akS all sm p (p + 1 + j) (akI all sm p (akA all sm (A 0 0) p) j)).2 ∧ akOk all (akS all sm p (p + 1 + j) (akI all sm p (akA all sm (A 0 0) p) j))
        unfold akS at hok ⊢
        by_cases hc : mxN (sm p (p + 1 + j)) (all - sm p (p + 1 + j)) < (akI all sm p (akA all sm (A 0 0) p) j).1
        · rw [if_pos hc] at hok ⊢
          rw [if_neg (by omega)]
          exact ⟨_, rfl, rfl, rfl, rfl, hok⟩
        · rw [if_neg hc] at hok ⊢
          rw [if_pos (by omega)]
          exact ⟨_, rfl, rfl, rfl, rfl, hok⟩
      · rintro ⟨z1, z2, z3⟩ ⟨t3, t1, t2, t4⟩
        dsimp only at t1 t2 t3
        subst t1 t2 t3
        unfold m_X5_ask_L58
        dsimp +instances only
        rw [hR.n (j := 0) (by omega), if_pos (nI_le (by omega) (by omega))]
        exact ⟨_, rfl, rfl, rfl, t4⟩
    · rintro ⟨z1, z2, z3⟩ ⟨e3, e1, e2, e4⟩
      dsimp only at e1 e2 e3
      subst e1 e2 e3
      unfold m_X5_ask_L40
      dsimp +instances only
      rw [hR.n (j := 0) (by omega), if_pos (nI_le (Nat.le_refl _) (by omega))]
      exact ⟨_, rfl, rfl, rfl, e4⟩
