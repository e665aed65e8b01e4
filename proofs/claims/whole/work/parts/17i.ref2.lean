/-! ===== PURE: the reference: what is changed ===== -/
def FrD (w w' : SV) (pg : Nat) : Prop := (∀ k, k ≠ 50 → w' k = w k) ∧ ∀ i, (i < pg + 6 ∨ (pg + 36 ≤ i ∧ i < pg + 56) ∨ pg + 63 ≤ i) → w' 50 i = w 50 i
theorem FrD.rf {w : SV} {pg : Nat} : FrD w w pg := ⟨fun _ _ => rfl, fun _ _ => rfl⟩
theorem FrD.tr {w w' w'' : SV} {pg : Nat} (h : FrD w w' pg) (h' : FrD w' w'' pg) : FrD w w'' pg := ⟨fun k hk => (h'.1 k hk).trans (h.1 k hk), fun i hi => (h'.2 i hi).trans (h.2 i hi)⟩
theorem FrD.up {w : SV} {pg i : Nat} {x : Int32} (h : (pg + 6 ≤ i ∧ i < pg + 36) ∨ (pg + 56 ≤ i ∧ i < pg + 63)) : FrD w (up2 w 50 i x) pg := ⟨fun k hk => up2_n hk, fun j hj => up2_si (by omega)⟩
/-- the static rows and numbers are the same -/
def SameS (A B : AS) : Prop := (∀ j, j < 4 → B 0 j = A 0 j) ∧ B 6 = A 6 ∧ B 9 = A 9 ∧ B 10 = A 10 ∧ B 11 = A 11 ∧ B 14 = A 14 ∧ B 15 = A 15 ∧ B 16 = A 16
theorem SameS.rf {A : AS} : SameS A A := ⟨fun _ _ => rfl, rfl, rfl, rfl, rfl, rfl, rfl, rfl⟩
theorem SameS.tr {A B C : AS} (h : SameS A B) (h' : SameS B C) : SameS A C := ⟨fun j hj => (h'.1 j hj).trans (h.1 j hj), h'.2.1.trans h.2.1, h'.2.2.1.trans h.2.2.1, h'.2.2.2.1.trans h.2.2.2.1, h'.2.2.2.2.1.trans h.2.2.2.2.1, h'.2.2.2.2.2.1.trans h.2.2.2.2.2.1, h'.2.2.2.2.2.2.1.trans h.2.2.2.2.2.2.1, h'.2.2.2.2.2.2.2.trans h.2.2.2.2.2.2.2⟩
theorem SameS.cov {A : AS} {p s : Nat} : SameS A (covA A p s) := ⟨fun j _ => by rw [covA_r (by decide) (by decide)], covA_r (by decide) (by decide), covA_r (by decide) (by decide), covA_r (by decide) (by decide), covA_r (by decide) (by decide), covA_r (by decide) (by decide), covA_r (by decide) (by decide), covA_r (by decide) (by decide)⟩
theorem SameS.dy {A : AS} : SameS A (dyA A) := ⟨fun j hj => dyA_0 (by omega) (by omega), dyA_r (by decide) (by decide) (by decide) (by decide), dyA_r (by decide) (by decide) (by decide) (by decide), dyA_r (by decide) (by decide) (by decide) (by decide), dyA_r (by decide) (by decide) (by decide) (by decide), dyA_r (by decide) (by decide) (by decide) (by decide), dyA_r (by decide) (by decide) (by decide) (by decide), dyA_r (by decide) (by decide) (by decide) (by decide)⟩
theorem SameS.dyN {A : AS} : ∀ n, SameS A (dyN A n)
  | 0 => SameS.rf
  | n + 1 => (SameS.dyN n).tr SameS.dy
theorem RN_c {w : SV} {A B : AS} (h : RN w A) (hs : SameS A B) : RN w B := by
  obtain ⟨h1, h2, h3, h4, h5, h6⟩ := h
  obtain ⟨s0, -, -, -, -, s14, s15, s16⟩ := hs
  unfold RN
  rw [s0 0 (by omega), s0 1 (by omega), s0 2 (by omega), s0 3 (by omega), s14, s15, s16]
  exact ⟨h1, h2, h3, h4, h5, h6⟩
theorem RS_c {w : SV} {pg : Nat} {A B : AS} (h : RS w pg A) (hs : SameS A B) : RS w pg B := by
  obtain ⟨h1, h2⟩ := h
  obtain ⟨s0, s6, s9, s10, s11, -, -, -⟩ := hs
  unfold RS
  rw [s0 0 (by omega), s0 1 (by omega), s6, s9, s10, s11]
  exact ⟨h1, h2⟩
theorem RN_f {w w' : SV} {A : AS} (h : RN w A) (h0 : w' 0 = w 0) (h3 : w' 3 = w 3) (h5 : w' 5 = w 5) : RN w' A := by
  unfold RN at h ⊢
  rw [h0, h3, h5]
  exact h
theorem RS_f {w w' : SV} {a b : Nat} {A : AS} (hW : A 0 0 ≤ 6 ∧ A 0 1 ≤ 5) (h : RS w a A) (hf : ∀ i, i < 6 ∨ (36 ≤ i ∧ i < 56) → w' 50 (b + i) = w 50 (a + i)) : RS w' b A := by
  refine ⟨fun p hp => by rw [hf p (by omega)]; exact h.1 p hp, fun s hs => ?_⟩
  rw [hf (36 + s) (by omega), hf (41 + s) (by omega), hf (46 + s) (by omega)]
  exact h.2 s hs
theorem RP_f {w w' : SV} {a b : Nat} {A : AS} (hW : WFb A) (h : RP w a A) (hf : ∀ i, 6 ≤ i → i < 63 → w' 50 (b + i) = w 50 (a + i)) : RP w' b A := by
  have hn := hW.n
  obtain ⟨h1, h2, h3, h4, h5⟩ := h
  refine ⟨fun p hp => ?_, fun p hp k hk => ?_, fun s hs => ?_, ?_, ?_⟩
  · rw [Nat.add_assoc, hf (6 + p) (by omega) (by omega), ← Nat.add_assoc]; exact h1 p hp
  · have b7 := hW.b7 p (by omega)
    rw [show b + 12 + 4 * p + k = b + (12 + 4 * p + k) by omega, hf _ (by omega) (by omega), show a + (12 + 4 * p + k) = a + 12 + 4 * p + k by omega]; exact h2 p hp k hk
  · rw [Nat.add_assoc, Nat.add_assoc b, hf (51 + s) (by omega) (by omega), hf (56 + s) (by omega) (by omega), ← Nat.add_assoc, ← Nat.add_assoc]; exact h3 s hs
  · rw [hf 61 (by omega) (by omega)]; exact h4
  · rw [hf 62 (by omega) (by omega)]; exact h5
theorem RM_mk {w w' : SV} {pg : Nat} {A B : AS} (hW : A 0 0 ≤ 6 ∧ A 0 1 ≤ 5) (hM : RM w pg A) (hpg : pg = 0 ∨ 63 ≤ pg) (hF : FrD w w' pg) (hs : SameS A B) (hP : RP w' pg B) : RM w' pg B := by
  refine ⟨RN_c (RN_f hM.1 (hF.1 0 (by decide)) (hF.1 3 (by decide)) (hF.1 5 (by decide))) hs, RS_c (RS_f hW hM.2.1 (fun i hi => ?_)) hs, hP⟩
  rw [Nat.zero_add]
  exact hF.2 i (by omega)
theorem RP_set {w : SV} {pg : Nat} {A : AS} (hP : RP w pg A) : RP w pg A := hP
theorem pJ_s {z : SV} {pg p s h : Nat} (hp : p < 6) (hpg : pg ≤ 252) (hh : h ≤ 3) (e : z 50 (pg + 6 + p) = nI h) : m_X6_paintsOn_J77 (nI pg) (nI p) (nI s) z = some (up2 (up2 z 50 (pg + 12 + 4 * p + h) (nI s)) 50 (pg + 6 + p) (nI (h + 1))) := by
  unfold m_X6_paintsOn_J77
  rw [li_6, li_12, li_4, pk_mul, nI_add, nI_add, nI_add, nI_add, inB_nI (by omega) (by omega), ck_true, nI_clamp (by omega), e, nI_add, inB_nI (by omega) (by omega), ck_true, nI_clamp (by omega), lett_eq, ck_true, ck_true, up2_si (by omega), e, nI_1, lett_eq]
theorem paintsOn_s {w : SV} {pg : Nat} {A : AS} (hM : RM w pg A) (hW : WFb A) (hpg : pg ≤ 252) (hpg' : pg = 0 ∨ 63 ≤ pg) {p s : Nat} (hp : p < A 0 0) : ∃ w', m_X6_paintsOn w (nI pg) (nI p) (nI s) = some w' ∧ RM w' pg (covA A p s) ∧ FrD w w' pg := by
  have hn := hW.n
  have b7 := hW.b7 p (by omega)
  have hRM : ∀ w', FrD w w' pg → RP w' pg (covA A p s) → RM w' pg (covA A p s) := fun w' hF hP => RM_mk ⟨by omega, by omega⟩ hM hpg' hF SameS.cov hP
  unfold m_X6_paintsOn
  rw [li_6, nI_add, nI_add, inB_nI (by omega) (by omega), ck_true, nI_clamp (by omega), hM.he hp, li_4, ifp (cast_eq (by omega) (by omega))]
  by_cases h4 : A 7 p = 4
  · rw [if_pos h4]
    have := lp_inv (step := m_X6_paintsOn_L28 (nI pg) (nI p)) (fun j z => z.1 = nI (j + 1) ∧ (∀ k, k ≠ 50 → z.2 k = w k) ∧ ∀ i, z.2 50 i = if pg + 12 + 4 * p ≤ i ∧ i < pg + 12 + 4 * p + j then w 50 (i + 1) else w 50 i) (fun r => (∀ k, k ≠ 50 → r.2 k = w k) ∧ ∀ i, r.2 50 i = if pg + 12 + 4 * p ≤ i ∧ i < pg + 12 + 4 * p + 3 then w 50 (i + 1) else w 50 i) 3 ?_ ?_ (s0 := ((1 : Int32), w)) ⟨rfl, fun _ _ => rfl, fun i => by rw [if_neg (by omega)]⟩
    · obtain ⟨⟨r1, r2⟩, hr, hro, hrc⟩ := this
      dsimp only at hro hrc
      rw [hr, some_bind]
      unfold m_X6_paintsOn_K28
      dsimp +instances only
      have e6 : r2 50 (pg + 6 + p) = nI 4 := by rw [hrc, if_neg (by omega), hM.he hp, h4]
      rw [li_6, nI_add, nI_add, inB_nI (by omega) (by omega), ck_true, ck_true, nI_clamp (by omega), e6, li_1, pk_sub (by omega), lett_eq, pJ_s (h := 3) (by omega) hpg (by omega) up2_ss]
      refine ⟨_, rfl, ?_⟩
      generalize hw9 : up2 (up2 (up2 r2 50 (pg + 6 + p) (nI (4 - 1))) 50 (pg + 12 + 4 * p + 3) (nI s)) 50 (pg + 6 + p) (nI (3 + 1)) = w9
      have c9 : ∀ i, w9 50 i = if i = pg + 6 + p then nI 4 else if i = pg + 12 + 4 * p + 3 then nI s else if pg + 12 + 4 * p ≤ i ∧ i < pg + 12 + 4 * p + 3 then w 50 (i + 1) else w 50 i := by
        intro i
        rw [← hw9]
        by_cases hi : i = pg + 6 + p
        · subst hi; rw [up2_ss, if_pos rfl]
        · rw [up2_si hi, if_neg hi]
          by_cases hi2 : i = pg + 12 + 4 * p + 3
          · subst hi2; rw [up2_ss, if_pos rfl]
          · rw [up2_si hi2, if_neg hi2, up2_si hi, hrc]
      have o9 : ∀ k, k ≠ 50 → w9 k = w k := fun k hk => by rw [← hw9, up2_n hk, up2_n hk, up2_n hk, hro k hk]
      have hF : FrD w w9 pg := ⟨o9, fun i hi => by rw [c9, if_neg (by omega), if_neg (by omega), if_neg (by omega)]⟩
      refine ⟨hRM w9 hF ⟨fun q hq => ?_, fun q hq k hk => ?_, fun t ht => ?_, ?_, ?_⟩, hF⟩
      · rw [covA_r (by decide) (by decide)] at hq
        rw [c9, covA_7]
        by_cases hqp : q = p
        · subst hqp; rw [if_pos rfl, if_pos rfl, if_pos h4]
        · rw [if_neg (by omega), if_neg (by omega), if_neg (by omega), if_neg hqp]
          exact hM.he hq
      · rw [covA_r (by decide) (by decide)] at hq
        rw [covA_7] at hk
        have b7q := hW.b7 q (by omega)
        rw [c9, if_neg (by omega), covA_8, if_pos h4]
        by_cases hqp : q = p
        · subst hqp
          rw [if_pos rfl, if_pos h4] at hk
          by_cases hk3 : k = 3
          · subst hk3; rw [if_pos rfl, if_neg (by omega), if_pos rfl]
          · rw [if_neg (by omega), if_pos (by omega), if_pos (by omega), Nat.add_assoc, Nat.add_assoc (4 * q)]
            exact hM.la hq (by omega)
        · rw [if_neg hqp] at hk
          rw [if_neg (by omega), if_neg (by omega), if_neg (by omega), if_neg (by omega)]
          exact hM.la hq hk
      · rw [covA_r (by decide) (by decide)] at ht
        rw [covA_r (by decide) (by decide), covA_r (by decide) (by decide), c9, c9, if_neg (by omega), if_neg (by omega), if_neg (by omega), if_neg (by omega), if_neg (by omega), if_neg (by omega)]
        exact ⟨hM.fr ht, hM.ea ht⟩
      · rw [covA_r (by decide) (by decide), c9, if_neg (by omega), if_neg (by omega), if_neg (by omega)]
        exact hM.da
      · rw [covA_r (by decide) (by decide), c9, if_neg (by omega), if_neg (by omega), if_neg (by omega)]
        exact hM.ls
    · rintro j ⟨z1, z2⟩ hj ⟨e1, e2, e3⟩
      dsimp only at e1 e2 e3
      subst e1
      left
      unfold m_X6_paintsOn_L28
      dsimp +instances only
      rw [li_4, if_neg (nI_ge (by omega) (by omega)), li_12, pk_mul, nI_add, nI_add, nI_add, li_1, pk_sub (by omega), inB_nI (by omega) (by omega), inB_nI (by omega) (by omega), ck_true, ck_true, nI_clamp (by omega), nI_clamp (by omega), lett_eq, nI_add]
      refine ⟨_, rfl, rfl, fun k hk => by dsimp only; rw [up2_n hk, e2 k hk], fun i => ?_⟩
      dsimp only
      by_cases hi : i = pg + 12 + 4 * p + (j + 1) - 1
      · rw [hi, up2_ss, e3, if_neg (by omega), if_pos (by omega)]
        congr 1
      · rw [up2_si hi, e3]
        by_cases h : pg + 12 + 4 * p ≤ i ∧ i < pg + 12 + 4 * p + j
        · rw [if_pos h, if_pos (by omega)]
        · rw [if_neg h, if_neg (by omega)]
    · rintro ⟨z1, z2⟩ ⟨e1, e2, e3⟩
      dsimp only at e1 e2 e3
      subst e1
      unfold m_X6_paintsOn_L28
      dsimp +instances only
      rw [li_4, if_pos (nI_le (by omega) (by omega))]
      exact ⟨_, rfl, e2, e3⟩
  · rw [if_neg h4, pJ_s (h := A 7 p) (by omega) hpg (by omega) (hM.he hp)]
    refine ⟨_, rfl, ?_⟩
    generalize hw9 : up2 (up2 w 50 (pg + 12 + 4 * p + A 7 p) (nI s)) 50 (pg + 6 + p) (nI (A 7 p + 1)) = w9
    have c9 : ∀ i, w9 50 i = if i = pg + 6 + p then nI (A 7 p + 1) else if i = pg + 12 + 4 * p + A 7 p then nI s else w 50 i := by
      intro i
      rw [← hw9]
      by_cases hi : i = pg + 6 + p
      · subst hi; rw [up2_ss, if_pos rfl]
      · rw [up2_si hi, if_neg hi]
        by_cases hi2 : i = pg + 12 + 4 * p + A 7 p
        · subst hi2; rw [up2_ss, if_pos rfl]
        · rw [up2_si hi2, if_neg hi2]
    have o9 : ∀ k, k ≠ 50 → w9 k = w k := fun k hk => by rw [← hw9, up2_n hk, up2_n hk]
    have hF : FrD w w9 pg := ⟨o9, fun i hi => by rw [c9, if_neg (by omega), if_neg (by omega)]⟩
    refine ⟨hRM w9 hF ⟨fun q hq => ?_, fun q hq k hk => ?_, fun t ht => ?_, ?_, ?_⟩, hF⟩
    · rw [covA_r (by decide) (by decide)] at hq
      rw [c9, covA_7]
      by_cases hqp : q = p
      · subst hqp; rw [if_pos rfl, if_pos rfl, if_neg h4]
      · rw [if_neg (by omega), if_neg (by omega), if_neg hqp]
        exact hM.he hq
    · rw [covA_r (by decide) (by decide)] at hq
      rw [covA_7] at hk
      have b7q := hW.b7 q (by omega)
      rw [c9, if_neg (by omega), covA_8, if_neg h4]
      by_cases hqp : q = p
      · subst hqp
        rw [if_pos rfl, if_neg h4] at hk
        by_cases hk3 : k = A 7 q
        · subst hk3; rw [if_pos rfl, if_pos rfl]
        · rw [if_neg (by omega), if_neg (by omega)]
          exact hM.la hq (by omega)
      · rw [if_neg hqp] at hk
        rw [if_neg (by omega), if_neg (by omega)]
        exact hM.la hq hk
    · rw [covA_r (by decide) (by decide)] at ht
      rw [covA_r (by decide) (by decide), covA_r (by decide) (by decide), c9, c9, if_neg (by omega), if_neg (by omega), if_neg (by omega), if_neg (by omega)]
      exact ⟨hM.fr ht, hM.ea ht⟩
    · rw [covA_r (by decide) (by decide), c9, if_neg (by omega), if_neg (by omega)]
      exact hM.da
    · rw [covA_r (by decide) (by decide), c9, if_neg (by omega), if_neg (by omega)]
      exact hM.ls
theorem RP_aset {w w' : SV} {pg : Nat} {A : AS} (hW : WFb A) (hP : RP w pg A) {r i x : Nat} {c : Nat} (hc : c < 315) (hw : w' = up2 w 50 c (nI x)) (hr : (r = 0 ∧ i = 4 ∧ c = pg + 61) ∨ (r = 0 ∧ i = 5 ∧ c = pg + 62) ∨ (r = 13 ∧ i < A 0 1 ∧ c = pg + 56 + i)) : RP w' pg (aset A r i x) := by
  subst hw
  have hn := hW.n
  obtain ⟨h1, h2, h3, h4, h5⟩ := hP
  have a00 : aset A r i x 0 0 = A 0 0 := by
    unfold aset; rw [if_neg (by omega)]
  have a01 : aset A r i x 0 1 = A 0 1 := by
    unfold aset; rw [if_neg (by omega)]
  have a7 : aset A r i x 7 = A 7 := aset_r (by omega)
  have a8 : aset A r i x 8 = A 8 := aset_r (by omega)
  have a12 : aset A r i x 12 = A 12 := aset_r (by omega)
  unfold RP
  rw [a00, a01, a7, a8, a12]
  refine ⟨fun p hp => ?_, fun p hp k hk => ?_, fun s hs => ?_, ?_, ?_⟩
  · rw [up2_si (by omega)]; exact h1 p hp
  · have b7 := hW.b7 p (by omega)
    rw [up2_si (by omega)]; exact h2 p hp k hk
  · refine ⟨?_, ?_⟩
    · rw [up2_si (by omega)]; exact (h3 s hs).1
    · by_cases hc2 : r = 13 ∧ i = s
      · obtain ⟨rfl, rfl⟩ := hc2
        rw [aset_s, show pg + 56 + i = c by omega, up2_ss]
      · rw [up2_si (by omega)]
        unfold aset
        rw [if_neg (by omega)]
        exact (h3 s hs).2
  · by_cases hc2 : r = 0 ∧ i = 4
    · obtain ⟨rfl, rfl⟩ := hc2
      rw [aset_s, show pg + 61 = c by omega, up2_ss]
    · rw [up2_si (by omega)]
      unfold aset
      rw [if_neg (by omega)]
      exact h4
  · by_cases hc2 : r = 0 ∧ i = 5
    · obtain ⟨rfl, rfl⟩ := hc2
      rw [aset_s, show pg + 62 = c by omega, up2_ss]
    · rw [up2_si (by omega)]
      unfold aset
      rw [if_neg (by omega)]
      exact h5
theorem SameS.ast {A : AS} {r i x : Nat} (hr : (r = 0 ∧ i = 4) ∨ (r = 0 ∧ i = 5) ∨ r = 13) : SameS A (aset A r i x) := by
  refine ⟨fun j hj => ?_, ?_, ?_, ?_, ?_, ?_, ?_, ?_⟩
  · unfold aset; rw [if_neg (by omega)]
  all_goals exact aset_r (by omega)
theorem SameS.er {A : AS} {k : Nat} : SameS A (erA A k) := ⟨fun j _ => by rw [erA_r (by decide)], erA_r (by decide), erA_r (by decide), erA_r (by decide), erA_r (by decide), erA_r (by decide), erA_r (by decide), erA_r (by decide)⟩
theorem dayOn_s {w : SV} {pg : Nat} {A : AS} (hM : RM w pg A) (hW : WF A) (hpg : pg ≤ 252) (hpg' : pg = 0 ∨ 63 ≤ pg) : ∃ w', m_X6_dayOn w (nI pg) = some (bI (cmA A).isSome, w') ∧ RM w' pg (dyA A) ∧ FrD w w' pg := by
  have hn := hW.1.n
  have hK : ∀ (x y : Int32) (w1 : SV) (B : AS), RM w1 pg B → WF B → B 0 1 = A 0 1 → B 0 0 = A 0 0 → B 0 4 = A 0 4 → ∃ w', m_X6_dayOn_K26 (nI pg) (x, y, w1) = some (x, w') ∧ RM w' pg (aset (erA B (A 0 1)) 0 4 (A 0 4 + 1)) ∧ FrD w1 w' pg := by
    intro x y w1 B h1 hB e1 e0 e4
    have := lp_inv (step := m_X6_dayOn_L112 (nI pg)) (fun k z => z.1 = nI k ∧ RM z.2 pg (erA B k) ∧ FrD w1 z.2 pg) (fun r => RM r.2 pg (erA B (A 0 1)) ∧ FrD w1 r.2 pg) (A 0 1) ?_ ?_ (s0 := ((0 : Int32), w1)) ⟨rfl, by rw [erA_0]; exact h1, FrD.rf⟩
    · obtain ⟨⟨r1, r2⟩, hr, hP, hF⟩ := this
      dsimp only at hP hF
      unfold m_X6_dayOn_K26
      dsimp +instances only
      rw [hr, some_bind]
      unfold m_X6_dayOn_K112
      dsimp +instances only
      have eda : r2 50 (pg + 61) = nI (A 0 4) := by rw [hP.da, erA_r (by decide), e4]
      rw [li_61, nI_add, inB_nI (by omega) (by omega), ck_true, ck_true, nI_clamp (by omega), eda, lett_eq, nI_1]
      have hWe := WF_er (k := A 0 1) hB
      have hF2 : FrD r2 (up2 r2 50 (pg + 61) (nI (A 0 4 + 1))) pg := FrD.up (by omega)
      refine ⟨_, rfl, ?_, hF.tr hF2⟩
      refine RM_mk ⟨by rw [erA_r (by decide)]; omega, by rw [erA_r (by decide)]; omega⟩ hP hpg' hF2 (SameS.ast (by omega)) ?_
      exact RP_aset hWe.1 hP.2.2 (by omega) rfl (by omega)
    · rintro k ⟨z1, z2⟩ hk ⟨hz, hI, hF⟩
      dsimp only at hz hI hF
      subst hz
      have hWk := WF_er (k := k) hB
      have b13 := (hWk.1.bs k (by rw [erA_r (by decide), e1]; exact hk)).2.2.2.2
      have hei : inA (erA B k) = inA B := inA_c (by rw [erA_r (by decide)]) (erA_r (by decide)) (erA_r (by decide)) (erA_r (by decide)) (erA_r (by decide))
      have hin := inA_le hWk.1 k
      have e13 : erA B k 13 k = B 13 k := by rw [erA_13, if_neg (Nat.lt_irrefl k)]
      have hks : k < erA B k 0 1 := by rw [erA_r (by decide), e1]; exact hk
      have hea := hI.ea hks
      rw [e13] at b13 hea
      rw [hei] at hin
      left
      unfold m_X6_dayOn_L112
      dsimp +instances only
      rw [hI.n1, erA_r (by decide), e1, if_neg (nI_ge hk (by omega)), li_56, nI_add, nI_add, inB_nI (by omega) (by omega), ck_true, paidOn_s hI hWk hpg hks, some_bind, ck_true, ck_true, nI_clamp (by omega), hea, hei, nI_add, lett_eq, lett_eq, show (999 : Int32) = nI 999 from rfl, ifp (cast_le (by omega) (by omega)), nI_1]
      have hstep : ∀ y, y = (if B 13 k + inA B k < 999 then B 13 k + inA B k else 999) → RM (up2 z2 50 (pg + 56 + k) (nI y)) pg (erA B (k + 1)) ∧ FrD w1 (up2 z2 50 (pg + 56 + k) (nI y)) pg := by
        intro y hy
        have hF2 : FrD z2 (up2 z2 50 (pg + 56 + k) (nI y)) pg := FrD.up (by omega)
        refine ⟨?_, hF.tr hF2⟩
        rw [← erA_s, ← hy]
        refine RM_mk ⟨by rw [erA_r (by decide)]; omega, by rw [erA_r (by decide)]; omega⟩ hI hpg' hF2 (SameS.ast (by omega)) ?_
        exact RP_aset hWk.1 hI.2.2 (by omega) rfl (by omega)
      by_cases hc : B 13 k + inA B k ≤ 999
      · rw [if_pos hc]
        refine ⟨_, rfl, rfl, hstep _ ?_⟩
        split <;> omega
      · rw [if_neg hc]
        refine ⟨_, rfl, rfl, hstep _ ?_⟩
        split <;> omega
    · rintro ⟨z1, z2⟩ ⟨hz, hI, hF⟩
      dsimp only at hz hI hF
      subst hz
      unfold m_X6_dayOn_L112
      dsimp +instances only
      rw [hI.n1, erA_r (by decide), e1, if_pos (nI_le (Nat.le_refl _) (by omega))]
      exact ⟨_, rfl, hI, hF⟩
  unfold m_X6_dayOn
  rw [li_61, li_62, nI_add, nI_add, inB_nI (by omega) (by omega), inB_nI (by omega) (by omega), ck_true, ck_true]
  have := lp_inv (step := m_X6_dayOn_L26 w (nI pg)) (fun k z => (z = ((0 : Int32), nI k, w) ∧ ∀ j, j < k → (A 12 ((A 0 5 + j) % A 0 1)).testBit (A 0 4 % 7) = false) ∨ ∃ s w1, cmA A = some s ∧ z = ((1 : Int32), nI k, w1) ∧ RM w1 pg (dy1A A) ∧ FrD w w1 pg) (fun r => (cmA A = none ∧ r.1 = 0 ∧ r.2.2 = w) ∨ ∃ s, cmA A = some s ∧ r.1 = 1 ∧ RM r.2.2 pg (dy1A A) ∧ FrD w r.2.2 pg) (A 0 1) ?_ ?_ (s0 := ((0 : Int32), (0 : Int32), w)) (.inl ⟨rfl, fun j hj => absurd hj (Nat.not_lt_zero j)⟩)
  · obtain ⟨⟨r1, r2, r3⟩, hr, hP⟩ := this
    rw [hr, some_bind]
    rcases hP with ⟨h1, h2, h3⟩ | ⟨s, h1, h2, h3, h4⟩
    · dsimp only at h2 h3
      subst h2 h3
      obtain ⟨w', g1, g2, g3⟩ := hK 0 r2 r3 A hM hW rfl rfl rfl
      refine ⟨w', ?_, ?_, g3⟩
      · rw [g1, h1]; rfl
      · unfold dyA dy1A
        rw [h1]
        exact g2
    · dsimp only at h2 h3 h4
      subst h2
      obtain ⟨w', g1, g2, g3⟩ := hK 1 r2 r3 (dy1A A) h3 (WF_dy1 hW) (dy1A_0 (by decide)) (dy1A_0 (by decide)) (dy1A_0 (by decide))
      refine ⟨w', ?_, g2, h4.tr g3⟩
      rw [g1, h1]; rfl
  · rintro k z hk (⟨rfl, hno⟩ | ⟨s, w1, hc, rfl, h1, h2⟩)
    · left
      have hm := Nat.mod_lt (A 0 5 + k) (show A 0 1 > 0 by omega)
      have bs := hW.1.bs _ hm
      have hd := Nat.mod_lt (A 0 4) (show 7 > 0 by omega)
      have hd0 := Nat.mod_lt (A 0 4) (show A 0 0 > 0 by omega)
      unfold m_X6_dayOn_L26
      dsimp +instances only
      rw [hM.n1, if_neg (nI_ge hk (by omega)), if_pos rfl, show dvB (nI (A 0 1)) = true from decide_eq_true (nI_ne0 (by omega) (by omega)), ck_true]
      rw [li_51, li_62, li_61, nI_add, nI_add, nI_add, nI_clamp (by omega), nI_clamp (by omega), hM.ls, hM.da, nI_add, pk_rem (by omega) (by omega) (by omega), nI_add, inB_nI (by omega) (by omega), ck_true, nI_clamp (by omega), hM.fr hm, show (7 : Int32) = nI 7 from rfl, pk_rem (by omega) (by omega) (by omega), ifp (b_t1 (m := A 12 ((A 0 5 + k) % A 0 1)) (s := A 0 4 % 7) (by omega) (by omega)), hM.n0, show dvB (nI (A 0 0)) = true from decide_eq_true (nI_ne0 (by omega) (by omega)), ck_true, pk_rem (by omega) (by omega) (by omega), nI_1, nI_1]
      cases ht : (A 12 ((A 0 5 + k) % A 0 1)).testBit (A 0 4 % 7)
      · rw [if_neg (by simp)]
        refine ⟨_, rfl, .inl ⟨rfl, ?_⟩⟩
        intro j hj
        by_cases hjk : j = k
        · subst hjk; exact ht
        · exact hno j (by omega)
      · rw [if_pos rfl]
        obtain ⟨w1, h1, h2, h3⟩ := paintsOn_s (s := (A 0 5 + k) % A 0 1) hM hW.1 hpg hpg' (p := A 0 4 % A 0 0) hd0
        rw [h1, some_bind, inB_nI (by omega) (by omega), ck_true, lett_eq]
        have hcm : cmA A = some ((A 0 5 + k) % A 0 1) := by
          unfold cmA
          rw [firstN_of hk ht hno]
          rfl
        have hF2 : FrD w1 (up2 w1 50 (pg + 62) (nI ((A 0 5 + k) % A 0 1 + 1))) pg := FrD.up (by omega)
        have hWc := WF_cov hW (p := A 0 4 % A 0 0) (by omega) hm
        have hcn := hWc.1.n
        refine ⟨_, rfl, .inr ⟨_, _, hcm, rfl, ?_, h3.tr hF2⟩⟩
        have e : dy1A A = aset (covA A (A 0 4 % A 0 0) ((A 0 5 + k) % A 0 1)) 0 5 ((A 0 5 + k) % A 0 1 + 1) := by
          unfold dy1A
          rw [hcm]
        rw [e]
        refine RM_mk ⟨by omega, by omega⟩ h2 hpg' hF2 (SameS.ast (by omega)) ?_
        exact RP_aset hWc.1 h2.2.2 (by omega) rfl (by omega)
    · right
      unfold m_X6_dayOn_L26
      dsimp +instances only
      rw [h1.n1, dy1A_0 (by decide), if_neg (nI_ge hk (by omega)), if_neg (by decide)]
      exact ⟨_, rfl, .inr ⟨s, hc, rfl, h1, h2⟩⟩
  · rintro z (⟨rfl, hno⟩ | ⟨s, w1, hc, rfl, h1, h2⟩)
    · unfold m_X6_dayOn_L26
      dsimp +instances only
      rw [hM.n1, if_pos (nI_le (Nat.le_refl _) (by omega))]
      refine ⟨_, rfl, .inl ⟨?_, rfl, rfl⟩⟩
      unfold cmA
      cases hf : firstN (fun k => (A 12 ((A 0 5 + k) % A 0 1)).testBit (A 0 4 % 7)) (A 0 1) with
      | none => rfl
      | some j => have := firstN_some hf; rw [hno j this.1] at this; cases this.2.1
    · unfold m_X6_dayOn_L26
      dsimp +instances only
      rw [h1.n1, dy1A_0 (by decide), if_pos (nI_le (Nat.le_refl _) (by omega))]
      exact ⟨_, rfl, .inr ⟨s, hc, rfl, h1, h2⟩⟩
theorem copies_s (w : SV) {a b : Nat} (ha : a ≤ 252) (hb : b ≤ 252) (hd : a + 63 ≤ b ∨ b + 63 ≤ a) : ∃ w', m_X6_copies w (nI a) (nI b) = some w' ∧ (∀ k, k ≠ 50 → w' k = w k) ∧ (∀ i, w' 50 i = if b ≤ i ∧ i < b + 63 then w 50 (a + (i - b)) else w 50 i) := by
  unfold m_X6_copies
  have := lp_inv (step := m_X6_copies_L2 (nI a) (nI b)) (fun k z => z.1 = nI k ∧ (∀ j, j ≠ 50 → z.2 j = w j) ∧ (∀ i, z.2 50 i = if b ≤ i ∧ i < b + k then w 50 (a + (i - b)) else w 50 i)) (fun r => (∀ j, j ≠ 50 → r.2 j = w j) ∧ (∀ i, r.2 50 i = if b ≤ i ∧ i < b + 63 then w 50 (a + (i - b)) else w 50 i)) 63 ?_ ?_ (s0 := ((0 : Int32), w)) ⟨rfl, fun _ _ => rfl, fun i => by rw [if_neg (by omega)]⟩
  · obtain ⟨r, hr, h1, h2⟩ := this
    rw [hr, some_bind]
    exact ⟨_, rfl, h1, h2⟩
  · rintro k ⟨z1, z2⟩ hk ⟨e1, e2, e3⟩
    dsimp only at e1 e2 e3
    subst e1
    left
    unfold m_X6_copies_L2
    dsimp +instances only
    rw [li_63, if_neg (nI_ge hk (by omega)), nI_add, nI_add, inB_nI (by omega) (by omega), inB_nI (by omega) (by omega), ck_true, ck_true, nI_clamp (by omega), nI_clamp (by omega), lett_eq, nI_1]
    refine ⟨_, rfl, rfl, fun j hj => by dsimp only; rw [up2_n hj, e2 j hj], fun i => ?_⟩
    dsimp only
    by_cases hi : i = b + k
    · rw [hi, up2_ss, e3, if_neg (by omega), if_pos (by omega)]
      congr 1
      omega
    · rw [up2_si hi, e3]
      by_cases h : b ≤ i ∧ i < b + k
      · rw [if_pos h, if_pos (by omega)]
      · rw [if_neg h, if_neg (by omega)]
  · rintro ⟨z1, z2⟩ ⟨e1, e2, e3⟩
    dsimp only at e1 e2 e3
    subst e1
    unfold m_X6_copies_L2
    dsimp +instances only
    rw [li_63, if_pos (nI_le (Nat.le_refl _) (by omega))]
    exact ⟨_, rfl, e2, e3⟩
