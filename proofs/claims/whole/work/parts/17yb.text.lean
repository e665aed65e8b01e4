/-! ===== PURE: the text ===== -/
def TxE (n : Nat) (v u w : SV) (c1 c2 : Int32) : Prop := (∃ c a, Fc v c a ∧ Bk w c a ∧ a ≤ n) ∨ (c2 = c1 ∧ v 0 3 = 0 ∧ v 0 1 = nI n ∧ w 0 21 = nI 0 ∧ w 0 24 = nI n ∧ ∃ k D HP HS wt pt, c1 = nI k ∧ k ≤ 161 ∧ HC v HP HS wt pt ∧ RepC u D ∧ WFd D HP HS ∧ RD w D ∧ HR w HP HS wt pt)
theorem L10_b {w : SV} {c a : Nat} (h : Bk w c a) (x : Int32) : m_X6_text_L10 (x, w) = some (.inr (x, w)) := by
  unfold m_X6_text_L10
  rw [if_neg (Bk_n0 h)]
theorem tx_loop {n : Nat} {t : Nat → Nat} (hn : n ≤ 160) (hb : ∀ j, t j ≤ 127) : ∀ (m i c : Nat) (v u w : SV) (D : AS) (HP HS wt : Nat) (pt : Bool), n - i < m → c + m ≤ 161 → Sy v u w n t i D HP HS wt pt → RT w n t → w 27 = v_X6 27 → w 28 = v_X6 28 → ∃ c1 c2 v' u' w', lpC m_X0_readText_L41 (nI c, v, u) = some (c1, v', u') ∧ lpC m_X6_text_L10 (nI c, w) = some (c2, w') ∧ FrX w w' ∧ TxE n v' u' w' c1 c2 := by
  intro m
  induction m with
  | zero => intro i c v u w D HP HS wt pt h; omega
  | succ m ih =>
    intro i c v u w D HP HS wt pt hm hc hSy hT h27 h28
    obtain ⟨hC, hH, hR, hW, hwt, hL, hS⟩ := hSy
    have hin := hC.2.2.2.1
    have hkl := tkK_lt n t i
    have hle : ¬ (160 : Int32) < nI c := fun h => by
      have := (cast_lt (a := 160) (b := c) (by decide) (by omega)).mp h
      omega
    obtain ⟨v1, a1, a2, a3⟩ := readToken_s u hC hn hb
    rcases a3 with ⟨b1, b2, b3⟩ | ⟨b1, b2, b3, b4, b5⟩
    · have hc1 : m_X0_readText_L41 (nI c, v, u) = some (.inr (nI c, v1, u)) := by
        unfold m_X0_readText_L41
        dsimp only
        rw [if_neg hle, b2, some_bind, if_pos rfl]
      rcases hL with ⟨-, l21, l22⟩ | ⟨l4, -⟩
      · have hB : Bk w 1 (skA n t i) := ⟨l21, l22, by omega, by omega⟩
        exact ⟨_, _, v1, u, w, lp_done hc1, lp_done (L10_b hB _), FrX.rf, .inl ⟨1, _, b3, hB, skA_le t hin⟩⟩
      · exact absurd b1 l4
    · obtain ⟨s1, s2⟩ := hS b1
      have hL' := hL
      rcases hL' with ⟨l4, -⟩ | ⟨-, l21, l24, l25, l23, l26⟩
      · exact absurd l4 b1
      by_cases h0 : tkK n t i = 0
      · have hc1 : m_X0_readText_L41 (nI c, v, u) = some (.inr (nI c, v1, u)) := by
          unfold m_X0_readText_L41
          dsimp only
          rw [if_neg hle, b2, some_bind]
          dsimp +instances only
          rw [if_neg (show ¬ (1 : Int32) = 0 by decide), if_pos (show v1 0 5 = 0 by rw [b4, h0]; rfl)]
        have hc2 : m_X6_text_L10 (nI c, w) = some (.inr (nI c, w)) := by
          unfold m_X6_text_L10
          dsimp only
          rw [if_pos (show w 0 21 = 0 from l21), if_pos (show w 0 25 = 0 by rw [l25, h0]; rfl)]
        exact ⟨_, _, v1, u, w, lp_done hc1, lp_done hc2, FrX.rf, .inr ⟨rfl, b3.2.2.2.2, b3.1, l21, by rw [l24, tkA_n hin h0], c, D, HP, HS, wt, pt, rfl, by omega, HC_C hH a1, hR, hW, s1, s2⟩⟩
      · obtain ⟨b, v', u', w', r1, r2, r3, r4⟩ := rl_s hn hb hT h27 h28 hin b1 h0 (v := v1) (u := u) (w := w) (D := D) (HP := HP) (HS := HS) (wt := wt) (pt := pt) ⟨b3, b4, a2, HC_C hH a1, hR, hW, hwt, hL, s1, s2⟩
        have hk0 : ¬ nI (tkK n t i) = 0 := fun e => h0 ((nI_eq (b := 0) (by omega) (by decide)).1 e)
        have hc1 : m_X0_readText_L41 (nI c, v, u) = if bI b = 0 then some (.inr (nI c, v', u')) else some (.inl (nI (c + 1), v', u')) := by
          unfold m_X0_readText_L41
          dsimp only
          rw [if_neg hle, b2, some_bind]
          dsimp +instances only
          rw [if_neg (show ¬ (1 : Int32) = 0 by decide), if_neg (show ¬ v1 0 5 = 0 by rw [b4]; exact hk0), r1, some_bind, i1]
        have hc2 : m_X6_text_L10 (nI c, w) = some (.inl (nI (c + 1), w')) := by
          unfold m_X6_text_L10
          dsimp only
          rw [if_pos (show w 0 21 = 0 from l21), if_neg (show ¬ w 0 25 = 0 by rw [l25]; exact hk0), r2, some_bind, i1]
        rcases r4 with ⟨rfl, c', a, x1, x2, x3⟩ | ⟨rfl, i', D', HP', HS', wt', pt', x2, x3⟩
        · rw [if_pos (show bI false = 0 from rfl)] at hc1
          exact ⟨_, _, v', u', w', lp_done hc1, (lp_next hc2).trans (lp_done (L10_b x2 _)), r3, .inl ⟨c', a, x1, x2, x3⟩⟩
        · rw [if_neg (show ¬ bI true = 0 by decide)] at hc1
          have hin' := x3.1.2.2.2.1
          obtain ⟨c1, c2, v2, u2, w2, y1, y2, y3, y4⟩ := ih i' (c + 1) v' u' w' D' HP' HS' wt' pt' (by omega) (by omega) x3 (hT.x r3) ((r3.1 27 (by decide) (by decide) (by decide) (by decide)).trans h27) ((r3.1 28 (by decide) (by decide) (by decide) (by decide)).trans h28)
          exact ⟨c1, c2, v2, u2, w2, (lp_next hc1).trans y1, (lp_next hc2).trans y2, r3.tr y3, y4⟩
/-- the street that a text begins with -/
def stA (u : SV) : AS := fun r i => if r = 0 then (if i = 0 then 4 else 0) else if r = 6 then 1 else if r = 7 then 0 else (u r i).toUInt32.toNat
theorem nI_to (x : Int32) : x = nI x.toUInt32.toNat := by
  apply Int32.toBitVec_inj.1
  show x.toBitVec = BitVec.ofNat 32 x.toBitVec.toNat
  simp
theorem clear_st (u : SV) : ∃ u', m_X3_clear u = some u' ∧ RepC u' (stA u) := by
  unfold m_X3_clear
  simp only [lett_eq, fill_s (n := 6) (by omega), some_bind]
  refine ⟨_, rfl, ?_, ?_, ?_, ?_, ?_, ?_, ?_, ?_, ?_, ?_, ?_, ?_, ?_⟩
  · intro j hj
    match j, hj with
    | 0, _ => simp (disch := decide) only [upr_n, up2_ss, up2_si]; rfl
    | 1, _ => simp (disch := decide) only [upr_n, up2_ss, up2_si]; rfl
    | 2, _ => simp (disch := decide) only [upr_n, up2_ss, up2_si]; rfl
    | 3, _ => simp (disch := decide) only [upr_n, up2_ss, up2_si]; rfl
    | 4, _ => simp (disch := decide) only [upr_n, up2_ss, up2_si]; rfl
  · simp (disch := decide) only [upr_n, up2_ss]
    rfl
  · intro i hi; simp (disch := decide) only [upr_n, upr_s]; rw [if_pos hi]; rfl
  · intro i hi; simp (disch := decide) only [upr_n, upr_s]; rw [if_pos hi]; rfl
  · intro i hi; simp (disch := decide) only [upr_n, up2_n]; exact nI_to _
  · intro i hi; simp (disch := decide) only [upr_n, up2_n]; exact nI_to _
  · intro i hi; simp (disch := decide) only [upr_n, up2_n]; exact nI_to _
  · intro i hi; simp (disch := decide) only [upr_n, up2_n]; exact nI_to _
  · intro i hi; simp (disch := decide) only [upr_n, up2_n]; exact nI_to _
  · intro i hi; simp (disch := decide) only [upr_n, up2_n]; exact nI_to _
  · intro i hi; simp (disch := decide) only [upr_n, up2_n]; exact nI_to _
  · intro i hi; simp (disch := decide) only [upr_n, up2_n]; exact nI_to _
  · intro i hi; simp (disch := decide) only [upr_n, up2_n]; exact nI_to _
theorem WFd_st (u : SV) : WFd (stA u) 0 0 := by
  refine ⟨⟨by show (2:Nat) ≤ 4; decide, by show (4:Nat) ≤ 6; decide, by show (0:Nat) ≤ 5; decide, by show (0:Nat) ≤ 5; decide, by show (0:Nat) ≤ 4; decide, rfl, rfl, by decide, by decide⟩, fun p hp => ⟨by show (1:Nat) ≤ 9; decide, by show (0:Nat) ≤ 4; decide, fun h => absurd h (by show ¬ (0:Nat) < 0; decide), fun k hk => absurd hk (by show ¬ k < 0; omega)⟩, fun s hs => absurd hs (by show ¬ s < 0; omega), fun b hb => absurd hb (by show ¬ b < 0; omega), fun f hf => absurd hf (by show ¬ f < 0; omega)⟩
