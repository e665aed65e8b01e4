/-! ===== PURE: lines ===== -/
def FrX (w w' : SV) : Prop := (∀ k, k ≠ 0 → k ≠ 7 → k ≠ 8 → k ≠ 9 → w' k = w k) ∧ ∀ j, (j < 10 ∨ (17 < j ∧ j < 21) ∨ 26 < j) → w' 0 j = w 0 j
theorem FrX.rf {w : SV} : FrX w w := ⟨fun _ _ _ _ _ => rfl, fun _ _ => rfl⟩
theorem FrX.tr {a b c : SV} (h : FrX a b) (h' : FrX b c) : FrX a c := ⟨fun k k0 k7 k8 k9 => (h'.1 k k0 k7 k8 k9).trans (h.1 k k0 k7 k8 k9), fun j hj => (h'.2 j hj).trans (h.2 j hj)⟩
theorem FrX.h {w w' : SV} (h : FrH w w') : FrX w w' := ⟨fun k k0 _ _ _ => h.1 k k0, fun j hj => h.2 j (by omega) (by omega) (by omega)⟩
theorem FrX.k {w w' : SV} (h : FrK w w') : FrX w w' := FrX.h (FrH.of h)
theorem FrX.up {w : SV} {j : Nat} {x : Int32} (h : (10 ≤ j ∧ j ≤ 17) ∨ (21 ≤ j ∧ j ≤ 26)) : FrX w (up2 w 0 j x) := ⟨fun k k0 _ _ _ => up2_n k0, fun i hi => up2_si (by omega)⟩
theorem FrX.row {w : SV} {k j : Nat} {x : Int32} (h : k = 7 ∨ k = 8 ∨ k = 9) : FrX w (up2 w k j x) := ⟨fun i i0 i7 i8 i9 => up2_n (by omega), fun i hi => by rw [up2_n (by omega)]⟩
theorem RT.x {w w' : SV} {n : Nat} {t : Nat → Nat} (h : RT w n t) (hF : FrX w w') : RT w' n t := ⟨by rw [hF.2 19 (by omega)]; exact h.1, fun j hj => by rw [hF.1 18 (by decide) (by decide) (by decide) (by decide)]; exact h.2 j hj⟩
def hiC (H : Nat) : Int32 := if H = 0 then -4 else nI (H - 1)
theorem hiC_mx {H V : Nat} (hH : H < 1000) (hV : V < 1000) : (if hiC H < nI V then nI V else hiC H) = hiC (mxh H V) := by
  have hlt : (hiC H < nI V) = (H ≤ V) := by
    unfold hiC
    by_cases h0 : H = 0
    · rw [if_pos h0, h0]
      refine propext ⟨fun _ => Nat.zero_le _, fun _ => ?_⟩
      rw [Int32.lt_iff_toInt_lt, nI_toInt (by omega), show (-4 : Int32).toInt = -4 from rfl]
      omega
    · rw [if_neg h0]
      exact (cast_lt (by omega) (by omega)).trans (propext (by omega))
  rw [ifp hlt]
  unfold mxh
  by_cases hc : H ≤ V
  · rw [if_pos hc, if_pos hc]
    unfold hiC
    rw [if_neg (by omega)]
    rfl
  · rw [if_neg hc, if_neg hc]
def WDn (D : AS) (HP HS : Nat) : Prop := 2 ≤ D 0 0 ∧ D 0 0 ≤ 6 ∧ D 0 1 ≤ 5 ∧ D 0 2 ≤ 5 ∧ D 0 3 ≤ 4 ∧ D 0 4 = 0 ∧ D 0 5 = 0 ∧ HP ≤ 6 ∧ HS ≤ 5
def WDp (D : AS) (HP HS : Nat) : Prop := ∀ p, p < 6 → D 6 p ≤ 9 ∧ D 7 p ≤ 4 ∧ (0 < D 7 p → p < HP) ∧ ∀ k, k < D 7 p → D 8 (4 * p + k) < HS
def WDs (D : AS) : Prop := ∀ s, s < D 0 1 → D 9 s ≤ 3 ∧ D 10 s ≤ 5 ∧ D 11 s ≤ 9 ∧ D 12 s ≤ 127 ∧ D 13 s = 0
def WDb (D : AS) (HP : Nat) : Prop := ∀ b, b < D 0 2 → D 14 b < HP ∧ D 15 b < HP ∧ D 14 b ≠ D 15 b
def WDf (D : AS) : Prop := ∀ f, f < D 0 3 → D 16 f ≤ 31
def WFd (D : AS) (HP HS : Nat) : Prop := WDn D HP HS ∧ WDp D HP HS ∧ WDs D ∧ WDb D HP ∧ WDf D
def RDn (w : SV) (D : AS) : Prop := w 0 10 = nI (D 0 0) ∧ w 0 11 = nI (D 0 1) ∧ w 0 12 = nI (D 0 2) ∧ w 0 13 = nI (D 0 3)
def RDp (w : SV) (D : AS) : Prop := ∀ p, p < 6 → w 7 p + 1 = nI (D 6 p) ∧ w 7 (6 + p) = nI (D 7 p) ∧ ∀ k, k < D 7 p → w 7 (12 + (4 * p + k)) = nI (D 8 (4 * p + k))
def RDs (w : SV) (D : AS) : Prop := ∀ s, s < D 0 1 → w 7 (36 + s) = nI (D 9 s) ∧ w 7 (41 + s) = nI (D 10 s) ∧ w 7 (46 + s) = nI (D 11 s) ∧ w 7 (51 + s) = nI (D 12 s)
def RDz (w : SV) : Prop := (∀ s, s < 5 → w 7 (56 + s) = nI 0) ∧ w 7 61 = nI 0 ∧ w 7 62 = nI 0
def RDb (w : SV) (D : AS) : Prop := ∀ b, b < D 0 2 → w 8 (2 * b) = nI (D 14 b) ∧ w 8 (2 * b + 1) = nI (D 15 b)
def RDf (w : SV) (D : AS) : Prop := ∀ f, f < D 0 3 → w 9 f = nI (D 16 f)
def RD (w : SV) (D : AS) : Prop := RDn w D ∧ RDp w D ∧ RDs w D ∧ RDz w ∧ RDb w D ∧ RDf w D
def HR (w : SV) (HP HS wt : Nat) (pt : Bool) : Prop := w 0 14 = bI pt ∧ w 0 15 = nI wt ∧ w 0 16 = nI HP + (-1) ∧ w 0 17 = nI HS + (-1)
def HC (v : SV) (HP HS wt : Nat) (pt : Bool) : Prop := v 0 9 = bI pt ∧ v 0 10 = nI wt ∧ v 0 11 = hiC HP ∧ v 0 12 = hiC HS
def Sy (v u w : SV) (n : Nat) (t : Nat → Nat) (i : Nat) (D : AS) (HP HS wt : Nat) (pt : Bool) : Prop := CT v n t i ∧ HC v HP HS wt pt ∧ RepC u D ∧ WFd D HP HS ∧ wt < 64 ∧ LK w n t i ∧ (tkK n t i ≠ 4 → RD w D ∧ HR w HP HS wt pt)
theorem RD_H {w w' : SV} {D : AS} (h : RD w D) (hF : FrH w w') : RD w' D := by
  have e7 := hF.1 7 (by decide)
  have e8 := hF.1 8 (by decide)
  have e9 := hF.1 9 (by decide)
  unfold RD RDn RDp RDs RDz RDb RDf at h ⊢
  rw [hF.2 10 (by decide) (by decide) (by omega), hF.2 11 (by decide) (by decide) (by omega), hF.2 12 (by decide) (by decide) (by omega), hF.2 13 (by decide) (by decide) (by omega), e7, e8, e9]
  exact h
theorem RD_f {w w' : SV} {D : AS} (h : RD w D) (e7 : w' 7 = w 7) (e8 : w' 8 = w 8) (e9 : w' 9 = w 9) (e0 : ∀ j, 10 ≤ j → j ≤ 13 → w' 0 j = w 0 j) : RD w' D := by
  unfold RD RDn RDp RDs RDz RDb RDf at h ⊢
  rw [e0 10 (by decide) (by decide), e0 11 (by decide) (by decide), e0 12 (by decide) (by decide), e0 13 (by decide) (by decide), e7, e8, e9]
  exact h
theorem HR_H {w w' : SV} {HP HS HP' HS' wt : Nat} {pt : Bool} (h : HR w HP HS wt pt) (hF : FrH w w') (h16 : w' 0 16 = nI HP' + (-1)) (h17 : w' 0 17 = nI HS' + (-1)) : HR w' HP' HS' wt pt := ⟨by rw [hF.2 14 (by decide) (by decide) (by omega)]; exact h.1, by rw [hF.2 15 (by decide) (by decide) (by omega)]; exact h.2.1, h16, h17⟩
theorem HR_K {w w' : SV} {HP HS wt : Nat} {pt : Bool} (h : HR w HP HS wt pt) (hF : FrK w w') : HR w' HP HS wt pt := HR_H h (FrH.of hF) (by rw [hF.2 16 (by omega)]; exact h.2.2.1) (by rw [hF.2 17 (by omega)]; exact h.2.2.2)
theorem HC_C {v v' : SV} {HP HS wt : Nat} {pt : Bool} (h : HC v HP HS wt pt) (hF : FrC v v') : HC v' HP HS wt pt := ⟨by rw [hF.2 9 (by omega)]; exact h.1, by rw [hF.2 10 (by omega)]; exact h.2.1, by rw [hF.2 11 (by omega)]; exact h.2.2.1, by rw [hF.2 12 (by omega)]; exact h.2.2.2⟩
/-- how a line ends -/
def LnR (n : Nat) (t : Nat → Nat) (i : Nat) (v u w : SV) (b : Bool) : Prop := (b = false ∧ ∃ c a, Fc v c a ∧ Bk w c a ∧ a ≤ n) ∨ (b = true ∧ ∃ i' D HP HS wt pt, i < i' ∧ Sy v u w n t i' D HP HS wt pt)
theorem sgn_ln {v u w : SV} {n i : Nat} {t : Nat → Nat} {D : AS} {HP HS wt : Nat} {pt : Bool} (hn : n ≤ 160) (hb : ∀ j, t j ≤ 127) (hT : RT w n t) (h : Sy v u w n t i D HP HS wt pt) : ∃ b v' w', m_X0_readSign v u = some (bI b, v') ∧ tlR w = some w' ∧ FrX w w' ∧ LnR n t i v' u w' b := by
  obtain ⟨hC, hH, hR, hW, hwt, hL, hS⟩ := h
  obtain ⟨v', c1, c2⟩ := readSign_s u hC hn hb
  obtain ⟨w', d1, d2, d3⟩ := tail_s hT hn hb hC.2.2.2.1 hL
  rcases c2 with ⟨e1, e2, e3⟩ | ⟨e1, e2, e3⟩
  · rcases d3 with ⟨f1, f2⟩ | ⟨f1, f2⟩
    · exact ⟨false, v', w', e2, d1, FrX.k d2, .inl ⟨rfl, _, _, e3, f2, skA_le t hC.2.2.2.1⟩⟩
    · exact absurd f1 e1
  · rcases d3 with ⟨f1, f2⟩ | ⟨f1, f2⟩
    · exact absurd e1 f1
    · have hk3 : tkK n t i = 3 := by
        unfold sgC at e1
        by_cases c4 : tkK n t i = 4
        · rw [if_pos c4] at e1; omega
        · rw [if_neg c4] at e1
          by_cases c3 : tkK n t i = 3
          · exact c3
          · rw [if_pos c3] at e1; omega
      refine ⟨true, v', w', e2, d1, FrX.k d2, .inr ⟨rfl, tkE n t i, D, HP, HS, wt, pt, tkE_gt hC.2.2.2.1 (by omega) (by omega), e3, HC_C hH c1, hR, hW, hwt, f2, fun _ => ?_⟩⟩
      have := hS (by omega)
      exact ⟨RD_H this.1 (FrH.of d2), HR_K this.2 d2⟩
noncomputable def rgo (w : SV) (k : Int32) : Option SV := if (w 0 21) ≤ 0 then (m_X6_readMore w k).bind tlR else some w
theorem rgo_4 {w : SV} {n i : Nat} {t : Nat → Nat} (hL : LK w n t i) (h4 : tkK n t i = 4) (k : Int32) : rgo w k = some w ∧ Bk w 1 (skA n t i) := by
  rcases hL with ⟨k4, l21, l22⟩ | ⟨k4, -⟩
  · refine ⟨?_, l21, l22, by omega, by omega⟩
    unfold rgo
    rw [l21, if_neg (by decide)]
  · exact absurd h4 k4
theorem rgo_n {w : SV} {n i : Nat} {t : Nat → Nat} (hL : LK w n t i) (h4 : tkK n t i ≠ 4) (k : Int32) : rgo w k = (m_X6_readMore w k).bind tlR := by
  rcases hL with ⟨k4, -⟩ | ⟨k4, l21, -⟩
  · exact absurd k4 h4
  · unfold rgo
    rw [l21, if_pos (by decide)]
theorem nfC_4 {n i lo hi so : Nat} {t : Nat → Nat} (h : tkK n t i = 4) : nfC n t i lo hi so = 1 := by unfold nfC; rw [if_pos h]
theorem nfC_so {n i lo hi so : Nat} {t : Nat → Nat} : nfC n t i lo hi so = if nfC n t i lo hi 0 ≠ 0 then nfC n t i lo hi 0 else if so.testBit (tkV n t i) then 4 else 0 := by
  unfold nfC
  by_cases c1 : tkK n t i = 4
  · rw [if_pos c1, if_pos c1, if_pos (by decide)]
  · rw [if_neg c1, if_neg c1]
    by_cases c2 : ¬ tkK n t i = 2
    · rw [if_pos c2, if_pos c2, if_pos (by decide)]
    · rw [if_neg c2, if_neg c2]
      by_cases c3 : ¬ (lo ≤ tkV n t i ∧ tkV n t i ≤ hi)
      · rw [if_pos c3, if_pos c3, if_pos (by decide)]
      · rw [if_neg c3, if_neg c3, Nat.zero_testBit, if_neg (show ¬ false = true by simp), if_neg (show ¬ (0:Nat) ≠ 0 by simp)]
theorem mxh_lt {H V : Nat} : V < mxh H V ∧ H ≤ mxh H V := by unfold mxh; split <;> omega
theorem mxh_le {H V m : Nat} (h1 : H ≤ m) (h2 : V < m) : mxh H V ≤ m := by unfold mxh; split <;> omega
theorem WFd_m {D : AS} {HP HS HP' HS' : Nat} (h : WFd D HP HS) (h1 : HP ≤ HP') (h2 : HS ≤ HS') (h3 : HP' ≤ 6) (h4 : HS' ≤ 5) : WFd D HP' HS' := by
  obtain ⟨a1, a2, a3, a4, a5⟩ := h
  refine ⟨⟨a1.1, a1.2.1, a1.2.2.1, a1.2.2.2.1, a1.2.2.2.2.1, a1.2.2.2.2.2.1, a1.2.2.2.2.2.2.1, h3, h4⟩, fun p hp => ?_, a3, fun b hb => ?_, a5⟩
  · have := a2 p hp
    exact ⟨this.1, this.2.1, fun h => by have := this.2.2.1 h; omega, fun k hk => by have := this.2.2.2 k hk; omega⟩
  · have := a4 b hb
    exact ⟨by omega, by omega, this.2.2⟩
theorem ln_parts {v u w : SV} {n i : Nat} {t : Nat → Nat} {D : AS} {HP HS wt : Nat} (hn : n ≤ 160) (hb : ∀ j, t j ≤ 127) (hT : RT w n t) (hp0 : v 0 9 = 0) (h : Sy (up2 v 0 9 (1 : Int32)) u w n t i D HP HS wt true) : ∃ b v' u' w', m_X0_readParts v u = some (bI b, v', u') ∧ rgo w (nI 4) = some w' ∧ FrX w w' ∧ LnR n t i v' u' w' b := by
  obtain ⟨hC, hH, hR, hW, hwt, hL, hS⟩ := h
  have hin := hC.2.2.2.1
  have hV := tkV_lt n t i hb
  obtain ⟨v2, c1, c6, c2⟩ := readNumber_s u (lo := 2) (hi := 6) hC hn hb (by omega) (by omega)
  have hc2 : m_X0_readParts v u = (m_X0_readNumber (up2 v 0 9 (1 : Int32)) u (nI 2) (nI 6)).bind (fun y26 => (if y26.1 = 0 then some ((0 : Int32), y26.2, u) else lett (up2 u 0 0 (y26.2 0 8)) (fun v3_ => (m_X0_readSign y26.2 v3_).bind (fun y46 => ck (nzB y46.1) (some (y46.1, y46.2, v3_)))))) := by
    unfold m_X0_readParts
    rw [hp0, if_pos rfl, lett_eq]
    rfl
  rw [hc2]
  have hrm : ∀ w : SV, m_X6_readMore w (nI 4) = (m_X6_other w (nI 2) (nI 6) (nI 0)).bind (fun y42 => lett (up2 y42.2 0 10 y42.1) (fun v2_ => some v2_)) := fun w => by
    unfold m_X6_readMore
    rw [if_pos (by decide)]
    rfl
  rcases c2 with ⟨e1, e2, e3⟩ | ⟨e1, e2, e3, e4⟩
  · rw [e2, some_bind]
    refine ⟨false, v2, u, ?_⟩
    by_cases h4 : tkK n t i = 4
    · obtain ⟨q1, q2⟩ := rgo_4 hL h4 (nI 4)
      rw [nfC_4 h4] at e3
      exact ⟨w, rfl, q1, FrX.rf, .inl ⟨rfl, _, _, e3, q2, skA_le t (by assumption)⟩⟩
    · obtain ⟨y, w1, o1, o2, o3⟩ := other_s (lo := 2) (hi := 6) (so := 0) hT hn hb hin hL (by omega) (by omega) (by omega)
      rcases o3 with ⟨k1, k2, k3⟩ | ⟨k1, -⟩
      · rw [rgo_n hL h4, hrm, o1]
        simp only [lett_eq, some_bind]
        rw [tail_b (Bk_0 k3 (by omega))]
        exact ⟨_, rfl, rfl, (FrX.k o2).tr (FrX.up (by omega)), .inl ⟨rfl, _, _, e3, Bk_0 k3 (by omega), skA_le t (by assumption)⟩⟩
      · exact absurd k1 e1
  · obtain ⟨z1, z2, z3, -⟩ := nfC_0 e1
    have h4 : tkK n t i ≠ 4 := by omega
    obtain ⟨y, w1, o1, o2, o3⟩ := other_s (lo := 2) (hi := 6) (so := 0) hT hn hb hin hL (by omega) (by omega) (by omega)
    rcases o3 with ⟨k1, -⟩ | ⟨k1, k2, k3⟩
    · exact absurd e1 k1
    · subst k2
      obtain ⟨s1, s2⟩ := hS h4
      have hS2 : Sy v2 (up2 u 0 0 (nI (tkV n t i))) (up2 w1 0 10 (nI (tkV n t i))) n t (tkE n t i) (aset D 0 0 (tkV n t i)) HP HS wt true := by
        refine ⟨e3, HC_C hH c1, hR.set0 (by omega), ?_, hwt, LK_up k3 (by omega), fun _ => ⟨?_, ?_⟩⟩
        · obtain ⟨a1, a2, a3, a4, a5⟩ := hW
          have a0 : ∀ j, j ≠ 0 → aset D 0 0 (tkV n t i) 0 j = D 0 j := fun j hj => aset_i hj
          have ar : ∀ r, r ≠ 0 → aset D 0 0 (tkV n t i) r = D r := fun r hr => aset_r hr
          unfold WFd WDn WDp WDs WDb WDf
          rw [aset_s, a0 1 (by decide), a0 2 (by decide), a0 3 (by decide), a0 4 (by decide), a0 5 (by decide), ar 6 (by decide), ar 7 (by decide), ar 8 (by decide), ar 9 (by decide), ar 10 (by decide), ar 11 (by decide), ar 12 (by decide), ar 13 (by decide), ar 14 (by decide), ar 15 (by decide), ar 16 (by decide)]
          exact ⟨⟨by omega, by omega, a1.2.2⟩, a2, a3, a4, a5⟩
        · have s1' := RD_H s1 (FrH.of o2)
          have a0 : ∀ j, j ≠ 0 → aset D 0 0 (tkV n t i) 0 j = D 0 j := fun j hj => aset_i hj
          have ar : ∀ r, r ≠ 0 → aset D 0 0 (tkV n t i) r = D r := fun r hr => aset_r hr
          unfold RD RDn RDp RDs RDz RDb RDf at s1' ⊢
          rw [aset_s, a0 1 (by decide), a0 2 (by decide), a0 3 (by decide), ar 6 (by decide), ar 7 (by decide), ar 8 (by decide), ar 9 (by decide), ar 10 (by decide), ar 11 (by decide), ar 12 (by decide), ar 14 (by decide), ar 15 (by decide), ar 16 (by decide), up2_ss, up2_si (by decide), up2_si (by decide), up2_si (by decide), up2_n (by decide), up2_n (by decide), up2_n (by decide)]
          exact ⟨⟨rfl, s1'.1.2⟩, s1'.2⟩
        · have := HR_K s2 o2
          exact ⟨by rw [up2_si (by decide)]; exact this.1, by rw [up2_si (by decide)]; exact this.2.1, by rw [up2_si (by decide)]; exact this.2.2.1, by rw [up2_si (by decide)]; exact this.2.2.2⟩
      obtain ⟨b, v', w', g1, g2, g3, g4⟩ := sgn_ln hn hb (hT.x ((FrX.k o2).tr (FrX.up (by omega)))) hS2
      rw [e2, some_bind, rgo_n hL h4, hrm, o1]
      dsimp +instances only
      rw [if_neg (show ¬ (1 : Int32) = 0 from by decide), e4, lett_eq, g1, some_bind]
      simp only [lett_eq, some_bind]
      rw [nz_bI, ck_true]
      refine ⟨b, v', _, w', rfl, g2, ((FrX.k o2).tr (FrX.up (by omega))).tr g3, ?_⟩
      rcases g4 with ⟨x1, x2⟩ | ⟨x1, i', D', HP', HS', wt', pt', x2, x3⟩
      · exact .inl ⟨x1, x2⟩
      · exact .inr ⟨x1, i', D', HP', HS', wt', pt', by have := tkE_gt hin h4 (by omega); omega, x3⟩
theorem LnR_t {n i i2 : Nat} {t : Nat → Nat} {v u w : SV} {b : Bool} (h : LnR n t i2 v u w b) (hi : i ≤ i2) : LnR n t i v u w b := by
  rcases h with ⟨x1, x2⟩ | ⟨x1, i', D', HP', HS', wt', pt', x2, x3⟩
  · exact .inl ⟨x1, x2⟩
  · exact .inr ⟨x1, i', D', HP', HS', wt', pt', by omega, x3⟩
theorem notePart_s {v : SV} (u : SV) {HP V : Nat} (h11 : v 0 11 = hiC HP) (h8 : v 0 8 = nI V) (hH : HP < 1000) (hV : V < 1000) : m_X0_notePart v u = some (nI V, up2 v 0 11 (hiC (mxh HP V))) := by
  unfold m_X0_notePart
  rw [h11, h8, hiC_mx hH hV, lett_eq, up2_si (by decide), h8]
theorem CT_up {v : SV} {n i j : Nat} {t : Nat → Nat} {x : Int32} (h : CT v n t i) (hj : 8 < j) : CT (up2 v 0 j x) n t i := ⟨by rw [up2_si (by omega)]; exact h.1, fun k hk => by rw [up2_n (by decide)]; exact h.2.1 k hk, by rw [up2_si (by omega)]; exact h.2.2.1, h.2.2.2.1, by rw [up2_si (by omega)]; exact h.2.2.2.2⟩
theorem wt_chk : ∀ wt, wt < 64 → ∀ p, p < 6 → wt ||| 2 ^ p < 64 := fun wt hw p hp => Nat.or_lt_two_pow (n := 6) hw (p2_lt hp)
theorem ln_worth {v u w : SV} {n i : Nat} {t : Nat → Nat} {D : AS} {HP HS wt : Nat} {pt : Bool} (hn : n ≤ 160) (hb : ∀ j, t j ≤ 127) (hT : RT w n t) (h : Sy v u w n t i D HP HS wt pt) : ∃ b v' u' w', m_X0_readWorth v u = some (bI b, v', u') ∧ rgo w (nI 5) = some w' ∧ FrX w w' ∧ LnR n t i v' u' w' b := by
  obtain ⟨hC, hH, hR, hW, hwt, hL, hS⟩ := h
  have hin := hC.2.2.2.1
  have hV := tkV_lt n t i hb
  have hWn := hW.1
  unfold WDn at hWn
  obtain ⟨v2, c1, c6, c2⟩ := readNumber_s u (lo := 0) (hi := 5) hC hn hb (by omega) (by omega)
  have hH2 := HC_C hH c1
  have hrm : ∀ w : SV, m_X6_readMore w (nI 5) = m_X6_readWorth w := fun w => by
    unfold m_X6_readMore
    rw [if_neg (by decide), if_pos (by decide)]
    cases m_X6_readWorth w <;> rfl
  -- the reference, once it is broken
  have hbr : ∀ (w1 : SV) (c a : Nat), FrX w w1 → Bk w1 c a → ∀ x : Int32, ∃ w', (lett (up2 w1 0 15 x) (fun v3_ => (m_X6_other v3_ (0 : Int32) (9 : Int32) (0 : Int32)).bind (fun y31 => ck (inB (nI 0) 63) (lett (up2 y31.2 7 ((nI 0).toNatClampNeg) (y31.1 - (1 : Int32))) (fun v6_ => some v6_))))).bind tlR = some w' ∧ FrX w w' ∧ Bk w' c a := by
    intro w1 c a hF hB x
    have hB2 := Bk_0 (j := 15) (x := x) hB (by omega)
    rw [lett_eq, other_b hB2, some_bind, inB_nI (by omega) (by omega), ck_true, lett_eq, some_bind]
    dsimp only
    rw [tail_b (Bk_row hB2 (by decide))]
    exact ⟨_, rfl, (hF.tr (FrX.up (by omega))).tr (FrX.row (.inl rfl)), Bk_row hB2 (by decide)⟩
  have hrw : ∀ w1 : SV, w1 0 15 = nI wt → m_X6_readWorth w1 = (m_X6_partHere w1 (nI wt)).bind (fun y5 => lett (up2 y5.2 0 15 ((y5.2 0 15) ||| ((1 : Int32) <<< (y5.1 &&& 31)))) (fun v3_ => (m_X6_other v3_ (0 : Int32) (9 : Int32) (0 : Int32)).bind (fun y31 => ck (inB y5.1 63) (lett (up2 y31.2 7 ((y5.1).toNatClampNeg) (y31.1 - (1 : Int32))) (fun v6_ => some v6_))))) := fun w1 h15 => by
    unfold m_X6_readWorth
    rw [h15]
  unfold m_X0_readWorth
  rw [show m_X0_readNumber v u (0 : Int32) (5 : Int32) = m_X0_readNumber v u (nI 0) (nI 5) from rfl]
  by_cases h4 : tkK n t i = 4
  · obtain ⟨q1, q2⟩ := rgo_4 hL h4 (nI 5)
    rcases c2 with ⟨e1, e2, e3⟩ | ⟨e1, -⟩
    · rw [nfC_4 h4] at e3
      rw [e2, some_bind]
      exact ⟨false, v2, u, w, rfl, q1, FrX.rf, .inl ⟨rfl, _, _, e3, q2, skA_le t (by assumption)⟩⟩
    · rw [nfC_4 h4] at e1; omega
  · obtain ⟨s1, s2⟩ := hS h4
    rw [rgo_n hL h4, hrm, hrw w s2.2.1]
    obtain ⟨y, w1, o1, o2, o7, o3⟩ := partHere_s (so := wt) hT hn hb hin hL (by omega) s2.2.2.1 (by omega)
    rw [o1, some_bind]
    dsimp only
    rcases c2 with ⟨e1, e2, e3⟩ | ⟨e1, e2, e3, e4⟩
    · rw [e2, some_bind]
      rcases o3 with ⟨k1, rfl, k3⟩ | ⟨k1, -⟩
      · rw [nfC_so, if_pos e1] at k3
        obtain ⟨w', r1, r2, r3⟩ := hbr w1 _ _ (FrX.h o2) k3 ((w1 0 15) ||| ((1 : Int32) <<< (nI 0 &&& 31)))
        exact ⟨false, v2, u, w', rfl, r1, r2, .inl ⟨rfl, _, _, e3, r3, skA_le t (by assumption)⟩⟩
      · rw [nfC_so, if_pos e1] at k1; exact absurd k1 e1
    · obtain ⟨z1, z2, z3, -⟩ := nfC_0 e1
      have hmx := mxh_le (H := HP) (V := tkV n t i) (m := 6) (by omega) (by omega)
      have h10 : up2 v2 0 11 (hiC (mxh HP (tkV n t i))) 0 10 = nI wt := by rw [up2_si (by decide)]; exact hH2.2.1
      have h6 : up2 v2 0 11 (hiC (mxh HP (tkV n t i))) 0 6 = nI (skA n t i) := by rw [up2_si (by decide)]; exact c6
      rw [e2, some_bind]
      dsimp +instances only
      rw [if_neg (show ¬ (1 : Int32) = 0 from by decide), notePart_s u hH2.2.2.1 e4 (by omega) (by omega), some_bind]
      dsimp +instances only
      rw [h10, h6, ifp (b_t1 (m := wt) (s := tkV n t i) (by omega) (by omega)), refuse_s, some_bind]
      have hnf : nfC n t i 0 5 wt = if wt.testBit (tkV n t i) then 4 else 0 := by rw [nfC_so, if_neg (show ¬ nfC n t i 0 5 0 ≠ 0 from fun h => h e1)]
      cases htb : wt.testBit (tkV n t i) with
      | true =>
        rw [htb, if_pos rfl] at hnf
        rw [if_pos rfl]
        rcases o3 with ⟨k1, rfl, k3⟩ | ⟨k1, -⟩
        · rw [hnf] at k3
          obtain ⟨w', r1, r2, r3⟩ := hbr w1 _ _ (FrX.h o2) k3 ((w1 0 15) ||| ((1 : Int32) <<< (nI 0 &&& 31)))
          exact ⟨false, _, u, w', rfl, r1, r2, .inl ⟨rfl, _, _, Fc_up _ 4 _, r3, skA_le t (by assumption)⟩⟩
        · omega
      | false =>
        rw [htb, if_neg (show ¬ false = true by simp)] at hnf
        rw [if_neg (show ¬ false = true by simp)]
        rcases o3 with ⟨k1, -⟩ | ⟨k1, rfl, k3, k4⟩
        · exact absurd hnf k1
        · have e15 : w1 0 15 = nI wt := by rw [o2.2 15 (by decide) (by decide) (by omega)]; exact s2.2.1
          rw [e15, b_two (by omega), nx_or, lett_eq, lett_eq]
          have hgt := tkE_gt hin h4 (by omega)
          have hin2 := tkE_le t hin
          have hV2 := tkV_lt n t (tkE n t i) hb
          have hwt' := wt_chk wt hwt (tkV n t i) (by omega)
          generalize hv3 : up2 (up2 v2 0 11 (hiC (mxh HP (tkV n t i)))) 0 10 (nI (wt ||| 2 ^ tkV n t i)) = v3
          have hC3 : CT v3 n t (tkE n t i) := by rw [← hv3]; exact CT_up (CT_up e3 (by omega)) (by omega)
          have hH3 : HC v3 (mxh HP (tkV n t i)) HS (wt ||| 2 ^ tkV n t i) pt := by
            rw [← hv3]
            exact ⟨by rw [up2_si (by decide), up2_si (by decide)]; exact hH2.1, by rw [up2_ss], by rw [up2_si (by decide), up2_ss], by rw [up2_si (by decide), up2_si (by decide)]; exact hH2.2.2.2⟩
          have hL3 : LK (up2 w1 0 15 (nI (wt ||| 2 ^ tkV n t i))) n t (tkE n t i) := LK_up k3 (by omega)
          have hF3 : FrX w (up2 w1 0 15 (nI (wt ||| 2 ^ tkV n t i))) := (FrX.h o2).tr (FrX.up (by omega))
          obtain ⟨y2, w4, p1, p2, p3⟩ := other_s (lo := 0) (hi := 9) (so := 0) (hT.x hF3) hn hb hin2 hL3 (by omega) (by omega) (by omega)
          obtain ⟨v4, d1, d6, d2⟩ := readNumber_s u (lo := 0) (hi := 9) hC3 hn hb (by omega) (by omega)
          rw [show m_X6_other (up2 w1 0 15 (nI (wt ||| 2 ^ tkV n t i))) (0 : Int32) (9 : Int32) (0 : Int32) = some (y2, w4) from p1, some_bind]
          dsimp only
          simp only [inB_nI (show tkV n t i < 6 by omega) (show 6 < 2 ^ 31 by decide), inB_nI (show tkV n t i < 63 by omega) (show 63 < 2 ^ 31 by decide), ck_true, lett_eq, some_bind]
          rw [nI_clamp (by omega), show m_X0_readNumber v3 u (0 : Int32) (9 : Int32) = m_X0_readNumber v3 u (nI 0) (nI 9) from rfl]
          rcases d2 with ⟨f1, f2, f3⟩ | ⟨f1, f2, f3, f4⟩
          · rw [f2, some_bind]
            rcases p3 with ⟨l1, l2, l3⟩ | ⟨l1, -⟩
            · rw [tail_b (Bk_row l3 (by decide))]
              exact ⟨false, v4, u, _, rfl, rfl, (hF3.tr (FrX.k p2)).tr (FrX.row (.inl rfl)), .inl ⟨rfl, _, _, f3, Bk_row l3 (by decide), skA_le t (by assumption)⟩⟩
            · exact absurd l1 f1
          · obtain ⟨g1, g2, g3, -⟩ := nfC_0 f1
            rcases p3 with ⟨l1, -⟩ | ⟨l1, rfl, l3⟩
            · exact absurd f1 l1
            · rw [f2, some_bind]
              dsimp +instances only
              rw [if_neg (show ¬ (1 : Int32) = 0 from by decide), f4]
              have hS5 : Sy v4 (up2 u 6 (tkV n t i) (nI (tkV n t (tkE n t i)))) (up2 w4 7 (tkV n t i) (nI (tkV n t (tkE n t i)) - 1)) n t (tkE n t (tkE n t i)) (aset D 6 (tkV n t i) (tkV n t (tkE n t i))) (mxh HP (tkV n t i)) HS (wt ||| 2 ^ tkV n t i) pt := by
                have a0 : aset D 6 (tkV n t i) (tkV n t (tkE n t i)) 0 = D 0 := aset_r (by decide)
                have ar : ∀ r, r ≠ 6 → aset D 6 (tkV n t i) (tkV n t (tkE n t i)) r = D r := fun r hr => aset_r hr
                refine ⟨f3, HC_C hH3 d1, hR.set (by decide), ?_, hwt', LK_row l3 (by decide), fun _ => ⟨?_, ?_⟩⟩
                · obtain ⟨a1, a2, a3, a4, a5⟩ := WFd_m hW (mxh_lt (V := tkV n t i)).2 (Nat.le_refl HS) hmx (by omega)
                  unfold WFd WDn WDp WDs WDb WDf
                  rw [a0, ar 7 (by decide), ar 8 (by decide), ar 9 (by decide), ar 10 (by decide), ar 11 (by decide), ar 12 (by decide), ar 13 (by decide), ar 14 (by decide), ar 15 (by decide), ar 16 (by decide)]
                  refine ⟨a1, fun p hp => ?_, a3, a4, a5⟩
                  have := a2 p hp
                  refine ⟨?_, this.2⟩
                  by_cases hpp : p = tkV n t i
                  · subst hpp; rw [aset_s]; exact g3
                  · rw [aset_i hpp]; exact this.1
                · have s1' : RD w4 D := RD_f s1 (by rw [p2.1 7 (by decide), up2_n (by decide), o2.1 7 (by decide)]) (by rw [p2.1 8 (by decide), up2_n (by decide), o2.1 8 (by decide)]) (by rw [p2.1 9 (by decide), up2_n (by decide), o2.1 9 (by decide)]) (fun j h10 h13 => by rw [p2.2 j (by omega), up2_si (by omega), o2.2 j (by omega) (by omega) (by omega)])
                  unfold RD RDn RDp RDs RDz RDb RDf at s1' ⊢
                  rw [a0, ar 7 (by decide), ar 8 (by decide), ar 9 (by decide), ar 10 (by decide), ar 11 (by decide), ar 12 (by decide), ar 14 (by decide), ar 15 (by decide), ar 16 (by decide), up2_n (by decide), up2_n (show 8 ≠ 7 by decide), up2_n (show 9 ≠ 7 by decide)]
                  refine ⟨s1'.1, fun p hp => ?_, fun s hs => ?_, ?_, s1'.2.2.2.2⟩
                  · have := s1'.2.1 p hp
                    refine ⟨?_, by rw [up2_si (by omega)]; exact this.2.1, fun k hk => by rw [up2_si (by omega)]; exact this.2.2 k hk⟩
                    by_cases hpp : p = tkV n t i
                    · subst hpp; rw [up2_ss, aset_s, Int32.sub_add_cancel]
                    · rw [up2_si hpp, aset_i hpp]; exact this.1
                  · have := s1'.2.2.1 s hs
                    exact ⟨by rw [up2_si (by omega)]; exact this.1, by rw [up2_si (by omega)]; exact this.2.1, by rw [up2_si (by omega)]; exact this.2.2.1, by rw [up2_si (by omega)]; exact this.2.2.2⟩
                  · have := s1'.2.2.2.1
                    exact ⟨fun s hs => by rw [up2_si (by omega)]; exact this.1 s hs, by rw [up2_si (by omega)]; exact this.2.1, by rw [up2_si (by omega)]; exact this.2.2⟩
                · exact ⟨by rw [up2_n (by decide), p2.2 14 (by omega), up2_si (by decide), o2.2 14 (by omega) (by omega) (by omega)]; exact s2.1, by rw [up2_n (by decide), p2.2 15 (by omega), up2_ss], by rw [up2_n (by decide), p2.2 16 (by omega), up2_si (by decide)]; exact k4, by rw [up2_n (by decide), p2.2 17 (by omega), up2_si (by decide), o7]; exact s2.2.2.2⟩
              obtain ⟨b, v', w', g1, g2, g3, g4⟩ := sgn_ln hn hb (hT.x ((hF3.tr (FrX.k p2)).tr (FrX.row (.inl rfl)))) hS5
              rw [g1, some_bind]
              dsimp only
              rw [nz_bI, ck_true]
              refine ⟨b, v', _, w', rfl, g2, ((hF3.tr (FrX.k p2)).tr (FrX.row (.inl rfl))).tr g3, LnR_t g4 ?_⟩
              have := tkE_gt (t := t) (n := n) (i := tkE n t i) hin2 (by omega) (by omega)
              omega
