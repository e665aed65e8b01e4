/-! ===== PURE: forgers in a text ===== -/
def fB (H bits : Nat) : Nat → Nat
  | 0 => H
  | k + 1 => if bits.testBit k then mxh (fB H bits k) k else fB H bits k
theorem fB_or : ∀ H, H < 6 → ∀ bits, bits < 32 → ∀ V, V < 5 → fB H (bits ||| 2 ^ V) 5 = mxh (fB H bits 5) V := by decide +kernel
theorem fB_0 : ∀ H, H < 6 → fB H 0 5 = H := by decide +kernel
theorem fB_le {H bits : Nat} (hH : H ≤ 5) : ∀ k, k ≤ 5 → fB H bits k ≤ 5 ∧ H ≤ fB H bits k
  | 0, _ => ⟨hH, Nat.le_refl _⟩
  | k + 1, hk => by
    have := fB_le (bits := bits) hH k (by omega)
    unfold fB
    split
    · have h1 := mxh_le (H := fB H bits k) (V := k) (m := 5) this.1 (by omega)
      have h2 := (mxh_lt (H := fB H bits k) (V := k)).2
      omega
    · exact this
theorem L31_s {v y : SV} {B H : Nat} (h12 : v 0 12 = hiC H) (hH : H ≤ 5) (hB : B < 32) : lpC (m_X0_readForger_L31 (nI B, y)) ((0 : Int32), v) = some (nI 5, up2 v 0 12 (hiC (fB H B 5))) := by
  have h0 : ((0 : Int32), v) = (nI 0, up2 v 0 12 (hiC (fB H B 0))) := by
    rw [show fB H B 0 = H from rfl, up2_id h12]
    rfl
  rw [h0]
  refine lp_run (fun k => (nI k, up2 v 0 12 (hiC (fB H B k)))) 5 (fun k hk => ?_) ?_
  · have hle := fB_le (bits := B) hH k (by omega)
    have hif : ∀ a : Int32, a = hiC (fB H B k) → (if a < nI k then nI k else a) = hiC (mxh (fB H B k) k) := fun a e => by
      subst e
      exact hiC_mx (by omega) (by omega)
    unfold m_X0_readForger_L31
    dsimp only
    rw [if_neg (show ¬ (5 : Int32) ≤ nI k from fun h => by
      have := (cast_le (a := 5) (b := k) (by decide) (by omega)).mp h
      omega), ifp (b_t1 (m := B) (s := k) (by omega) (by omega)), hif _ up2_ss, lett_eq, up2_up2, i1]
    rw [show fB H B (k + 1) = if B.testBit k then mxh (fB H B k) k else fB H B k from rfl]
    cases B.testBit k with
    | true => rw [if_pos rfl, if_pos rfl]
    | false => rw [if_neg (show ¬ false = true by simp), if_neg (show ¬ false = true by simp)]
  · unfold m_X0_readForger_L31
    dsimp only
    rw [if_pos (show (5 : Int32) ≤ nI 5 by decide)]
theorem L2_b {w : SV} {c a : Nat} (h : Bk w c a) (x : Int32) : m_X6_readForger_L2 (x, w) = some (.inr (x, w)) := by
  unfold m_X6_readForger_L2
  rw [if_neg (Bk_n0 h)]
theorem bitsF {n H : Nat} {t : Nat → Nat} (u : SV) (hn : n ≤ 160) (hb : ∀ j, t j ≤ 127) (hH : H ≤ 5) : ∀ (m i bits cnt : Nat) (v w : SV), n - i < m → cnt + m ≤ 161 → bits < 32 → CT v n t i → LK w n t i → RT w n t → w 0 17 = nI (fB H bits 5) + (-1) → ∃ (ok : Bool) (p : Nat) (v' w' : SV) (B : Nat) (bw : Int32) (r : (Int32 × Int32 × SV) ⊕ (Int32 × SV)), i ≤ p ∧ FrC v v' ∧ FrH w w' ∧ w' 0 16 = w 0 16 ∧ lpC (m_X0_readBits_L4 u (nI 4)) (nI bits, nI cnt, v) = some r ∧ Sum.elim m_X0_readBits_K4 (fun y => some y) r = some (nI B, v') ∧ B < 32 ∧ lpC m_X6_readForger_L2 (nI bits, w) = some (bw, w') ∧ ((ok = true ∧ bw = nI B ∧ p ≤ n ∧ tkK n t p = 3 ∧ CT v' n t (tkE n t p) ∧ LK w' n t p ∧ w' 0 17 = nI (fB H B 5) + (-1)) ∨ (ok = false ∧ ∃ c a, Fc v' c a ∧ BQ n t w' c a ∧ a ≤ n)) := by
  intro m
  induction m with
  | zero => intro i bits cnt v w h; omega
  | succ m ih =>
    intro i bits cnt v w hm hc hbt hC hL hT h17
    have hin := hC.2.2.2.1
    have hV := tkV_lt n t i hb
    have hkl := tkK_lt n t i
    obtain ⟨v1, a1, a2⟩ := L4_s u (hi := 4) (bits := bits) (cnt := cnt) hC hn hb (by omega) (by omega) (by omega)
    have hout : tkK n t i ≠ 2 → lpC m_X6_readForger_L2 (nI bits, w) = some (nI bits, w) := fun h2 => by
      apply lp_done
      unfold m_X6_readForger_L2
      dsimp only
      rcases hL with ⟨-, l21, -⟩ | ⟨-, l21, -, l25, -⟩
      · rw [if_neg (by rw [l21]; decide)]
      · rw [if_pos (show w 0 21 = 0 from l21), if_neg]
        rw [l25]
        intro e
        exact h2 ((nI_eq (b := 2) (by omega) (by omega)).1 e)
    have hle := fB_le (bits := bits) hH 5 (by omega)
    rcases a2 with ⟨b1, b2, b3⟩ | ⟨b1, b2, b3⟩ | ⟨b4, b3, b1, b2, b5⟩ | ⟨b1, b2, b3⟩
    · rcases hL with ⟨-, l21, l22⟩ | ⟨l4, -⟩
      · exact ⟨false, i, v1, w, bits, _, _, Nat.le_refl i, a1, FrH.of FrK.rf, rfl, lp_done b2, rfl, hbt, hout (by omega), .inr ⟨rfl, 1, _, b3, .inl ⟨l21, l22, by omega, by omega⟩, skA_le t hin⟩⟩
      · exact absurd b1 l4
    · exact ⟨true, i, v1, w, bits, _, _, Nat.le_refl i, a1, FrH.of FrK.rf, rfl, lp_done b2, rfl, hbt, hout (by omega), .inl ⟨rfl, rfl, hin, b1, b3, hL, h17⟩⟩
    · by_cases h2 : tkK n t i = 2
      · obtain ⟨y, w1, o1, o2, o7, o3⟩ := sitterHere_s (so := bits) hT hn hb hin hL (by omega) h17 (by omega)
        rcases o3 with ⟨k1, rfl, k3⟩ | ⟨k1, -⟩
        · have hst : m_X6_readForger_L2 (nI bits, w) = some (.inl ((nI bits ||| ((1 : Int32) <<< (nI 0 &&& 31))), w1)) := by
            unfold m_X6_readForger_L2
            dsimp only
            rcases hL with ⟨l4, -⟩ | ⟨-, l21, -, l25, -⟩
            · exact absurd l4 b4
            · rw [if_pos (show w 0 21 = 0 from l21), if_pos (by rw [l25, h2]; rfl), o1, some_bind]
          exact ⟨false, i, v1, w1, 0, _, _, Nat.le_refl i, a1, o2, o7, lp_done b2, rfl, by omega, (lp_next hst).trans (lp_done (L2_b k3 _)), .inr ⟨rfl, _, _, b5, .inl k3, skA_le t hin⟩⟩
        · exact absurd k1 b1
      · have hnf : nfC n t i 0 4 bits = 2 := by unfold nfC; rw [if_neg b4, if_pos h2]
        have hsg : sgC n t i = 2 := by unfold sgC; rw [if_neg b4, if_pos b3]
        exact ⟨false, i, v1, w, 0, _, _, Nat.le_refl i, a1, FrH.of FrK.rf, rfl, lp_done b2, rfl, by omega, hout h2, .inr ⟨rfl, _, _, b5, .inr ⟨i, hin, hL, by rw [hsg, hnf], b1, rfl⟩, skA_le t hin⟩⟩
    · obtain ⟨y, w1, o1, o2, o7, o3⟩ := sitterHere_s (so := bits) hT hn hb hin hL (by omega) h17 (by omega)
      rcases o3 with ⟨k1, -⟩ | ⟨k1, rfl, k3, k4⟩
      · exact absurd b1 k1
      · obtain ⟨z1, z2, z3, -⟩ := nfC_0 b1
        have hst : m_X6_readForger_L2 (nI bits, w) = some (.inl (nI (bits ||| 2 ^ tkV n t i), w1)) := by
          unfold m_X6_readForger_L2
          dsimp only
          rcases hL with ⟨l4, -⟩ | ⟨-, l21, -, l25, -⟩
          · omega
          · rw [if_pos (show w 0 21 = 0 from l21), if_pos (by rw [l25, z1]; rfl), o1, some_bind]
            dsimp only
            rw [b_two (by omega), nx_or]
        have hgt := tkE_gt (t := t) hin (by omega) (by omega)
        have hin2 := tkE_le t hin
        obtain ⟨ok, p, v2, w2, B, bw, r, c1, c2, c3, c8, c4, c5, c9, c6, c7⟩ := ih (tkE n t i) (bits ||| 2 ^ tkV n t i) (cnt + 1) v1 w1 (by omega) (by omega) (bits_lt (hi := 4) hbt z3) b3 k3 (hT.x (FrX.h o2)) (by rw [k4, fB_or H (by omega) bits hbt _ (by omega)])
        exact ⟨ok, p, v2, w2, B, bw, r, by omega, a1.tr c2, o2.tr c3, c8.trans o7, (lp_next b2).trans c4, c5, c9, (lp_next hst).trans c6, c7⟩
theorem K2_s {w : SV} {x : Int32} {S : Nat} (e13 : w 0 13 = nI S) (hS : S < 4) : m_X6_readForger_K2 (x, w) = some (up2 (up2 w 9 S x) 0 13 (nI (S + 1))) := by
  unfold m_X6_readForger_K2
  simp (disch := omega) only [lett_eq, up2_n (show (0 : Nat) ≠ 9 by decide), e13, i1, inB_nI, ck_true, nI_clamp]
theorem ln_forger {v u w : SV} {n i : Nat} {t : Nat → Nat} {D : AS} {HP HS wt : Nat} {pt : Bool} (hn : n ≤ 160) (hb : ∀ j, t j ≤ 127) (hT : RT w n t) (hD : D 0 3 < 4) (h : Sy v u w n t i D HP HS wt pt) : ∃ b v' u' w', m_X0_readForger v u = some (bI b, v', u') ∧ rgo w (nI 7) = some w' ∧ FrX w w' ∧ LnR n t i v' u' w' b := by
  obtain ⟨hC, hH, hR, hW, hwt, hL, hS⟩ := h
  have hin := hC.2.2.2.1
  have hWn := hW.1
  unfold WDn at hWn
  have hu3 : u 0 3 = nI (D 0 3) := hR.n (by decide)
  have hrm : ∀ w : SV, m_X6_readMore w (nI 7) = m_X6_readForger w := fun w => by
    unfold m_X6_readMore
    rw [if_neg (by decide), if_neg (by decide), if_neg (by decide), if_pos (by decide)]
    cases m_X6_readForger w <;> rfl
  -- the class, whatever the reference does
  have hcl : ∀ {v6 : SV} {B : Nat}, m_X0_readBits v u (4 : Int32) = some (nI B, v6) → FrC v v6 → B < 32 → m_X0_readForger v u = some (if v6 0 3 = 0 then (1 : Int32) else 0, up2 v6 0 12 (hiC (fB HS B 5)), up2 (up2 u 16 (D 0 3) (nI B)) 0 3 (nI (D 0 3 + 1))) := fun {v6 B} e hF hB => by
    unfold m_X0_readForger
    rw [hu3, if_pos (show nI (D 0 3) < (4 : Int32) from (cast_lt (b := 4) (by omega) (by decide)).mpr hD), e, some_bind]
    dsimp only
    rw [L31_s (HC_C hH hF).2.2.2 (by omega) hB, some_bind]
    unfold m_X0_readForger_K31
    simp (disch := omega) only [lett_eq, up2_n (show (0 : Nat) ≠ 16 by decide), hu3, i1, inB_nI, ck_true, nI_clamp, up2_si (show 3 ≠ 12 by decide)]
    split <;> rfl
  by_cases h4 : tkK n t i = 4
  · obtain ⟨q1, q2⟩ := rgo_4 hL h4 (nI 7)
    obtain ⟨v1, a1, a2⟩ := L4_s u (hi := 4) (bits := 0) (cnt := 0) hC hn hb (by omega) (by omega) (by omega)
    rcases a2 with ⟨b1, b2, b3⟩ | ⟨b1, -⟩ | ⟨b1, -⟩ | ⟨b1, -⟩
    · have hrb : m_X0_readBits v u (4 : Int32) = some (nI 0, v1) := by
        unfold m_X0_readBits
        rw [show lpC (m_X0_readBits_L4 u (4 : Int32)) ((0 : Int32), (0 : Int32), v) = _ from lp_done b2]
        rfl
      rw [hcl hrb a1 (by omega), if_neg (by rw [b3.1]; decide)]
      exact ⟨false, _, _, w, rfl, q1, FrX.rf, .inl ⟨rfl, 1, _, ⟨by rw [up2_si (by decide)]; exact b3.1, by rw [up2_si (by decide)]; exact b3.2⟩, q2, skA_le t (by assumption)⟩⟩
    · omega
    · exact absurd h4 b1
    · rw [nfC_4 h4] at b1; omega
  · obtain ⟨s1, s2⟩ := hS h4
    have e13 : w 0 13 = nI (D 0 3) := s1.1.2.2.2
    rw [rgo_n hL h4, hrm]
    obtain ⟨ok, p, v6, w6, B, bw, r, b1, b2, b3, b8, b4, b5, b9, b6, b7⟩ := bitsF u hn hb (H := HS) (by omega) (n - i + 1) i 0 0 v w (by omega) (by omega) (by omega) hC hL hT (by rw [fB_0 HS (by omega)]; exact s2.2.2.2)
    have hbc : m_X0_readBits v u (4 : Int32) = some (nI B, v6) := by
      unfold m_X0_readBits
      rw [show lpC (m_X0_readBits_L4 u (4 : Int32)) ((0 : Int32), (0 : Int32), v) = some r from b4, some_bind]
      exact b5
    have e6_13 : w6 0 13 = nI (D 0 3) := by rw [b3.2 13 (by decide) (by decide) (by omega)]; exact e13
    rw [hcl hbc b2 b9]
    unfold m_X6_readForger
    rw [show lpC m_X6_readForger_L2 ((0 : Int32), w) = some (bw, w6) from b6, some_bind, K2_s e6_13 hD, some_bind]
    have hF7 : FrX w (up2 (up2 w6 9 (D 0 3) bw) 0 13 (nI (D 0 3 + 1))) := ((FrX.h b3).tr (FrX.row (by omega))).tr (FrX.up (by omega))
    rcases b7 with ⟨rfl, rfl, hp, hk3, hCp, hLp, h17⟩ | ⟨rfl, c, a, hF, hQ, ha⟩
    · rw [if_pos (show v6 0 3 = 0 from hCp.2.2.2.2)]
      obtain ⟨w', d1', d2', d3'⟩ := tail_s (hT.x hF7) hn hb hp (LK_up (LK_row hLp (by decide)) (by omega))
      have hsg : sgC n t p = 0 := by unfold sgC; rw [if_neg (by omega), if_neg (by omega)]
      rcases d3' with ⟨x1, -⟩ | ⟨-, x2⟩
      · exact absurd hsg x1
      have hgt3 := tkE_gt (t := t) hp (by omega) (by omega)
      have hle := fB_le (bits := B) (H := HS) (by omega) 5 (by omega)
      have hH6 := HC_C hH b2
      generalize hD' : aset (aset D 16 (D 0 3) B) 0 3 (D 0 3 + 1) = D'
      have hRD : RepC (up2 (up2 u 16 (D 0 3) (nI B)) 0 3 (nI (D 0 3 + 1))) D' := by
        rw [← hD']
        exact (hR.set (by decide)).set0 (by decide)
      have a0 : ∀ j, j ≠ 3 → D' 0 j = D 0 j := fun j hj => by rw [← hD', aset_ne (.inr hj), aset_ne (.inl (by decide))]
      have a03 : D' 0 3 = D 0 3 + 1 := by rw [← hD', aset_s]
      have ar : ∀ r, r ≠ 0 → r ≠ 16 → D' r = D r := fun r h0 h16 => by rw [← hD', aset_r h0, aset_r h16]
      have as : ∀ s, s ≠ D 0 3 → D' 16 s = D 16 s := fun s hs => by rw [← hD', aset_ne (.inl (by decide)), aset_ne (.inr hs)]
      have a16 : D' 16 (D 0 3) = B := by rw [← hD', aset_ne (.inl (by decide)), aset_s]
      clear hD'
      have hlo : ∀ j, j < 21 → j ≠ 13 → j ≠ 16 → j ≠ 17 → w' 0 j = w 0 j := fun j hj h13 h16 h17' => by rw [d2'.2 j (by omega), up2_si h13, up2_n (by decide), b3.2 j h16 h17' (by omega)]
      have h013 : w' 0 13 = nI (D 0 3 + 1) := by rw [d2'.2 13 (by omega), up2_ss]
      have hr8 : ∀ r, r ≠ 0 → r ≠ 9 → w' r = w r := fun r h0 h9 => by rw [d2'.1 r h0, up2_n h0, up2_n h9, b3.1 r h0]
      have hr9 : ∀ j, j ≠ D 0 3 → w' 9 j = w 9 j := fun j h1 => by rw [d2'.1 9 (by decide), up2_n (by decide), up2_si h1, b3.1 9 (by decide)]
      have h9 : w' 9 (D 0 3) = nI B := by rw [d2'.1 9 (by decide), up2_n (by decide), up2_ss]
      refine ⟨true, _, _, w', rfl, d1', hF7.tr (FrX.k d2'), .inr ⟨rfl, tkE n t p, D', HP, fB HS B 5, wt, pt, by omega, CT_up hCp (by omega), ⟨by rw [up2_si (by decide)]; exact hH6.1, by rw [up2_si (by decide)]; exact hH6.2.1, by rw [up2_si (by decide)]; exact hH6.2.2.1, by rw [up2_ss]⟩, hRD, ?_, hwt, x2, fun _ => ⟨?_, ?_⟩⟩⟩
      · obtain ⟨a1, a2, a3, a4, a5⟩ := WFd_m hW (Nat.le_refl HP) hle.2 (by omega) hle.1
        unfold WFd WDn WDp WDs WDb WDf
        rw [a0 0 (by decide), a03, a0 2 (by decide), a0 1 (by decide), a0 4 (by decide), a0 5 (by decide), ar 6 (by decide) (by decide), ar 7 (by decide) (by decide), ar 8 (by decide) (by decide), ar 9 (by decide) (by decide), ar 10 (by decide) (by decide), ar 11 (by decide) (by decide), ar 12 (by decide) (by decide), ar 13 (by decide) (by decide), ar 14 (by decide) (by decide), ar 15 (by decide) (by decide)]
        refine ⟨by omega, a2, a3, a4, fun f hf => ?_⟩
        by_cases hfS : f = D 0 3
        · rw [hfS, a16]; omega
        · rw [as f hfS]; exact a5 f (by omega)
      · unfold RD RDn RDp RDs RDz RDb RDf at s1 ⊢
        rw [a0 0 (by decide), a03, a0 2 (by decide), a0 1 (by decide), ar 6 (by decide) (by decide), ar 7 (by decide) (by decide), ar 8 (by decide) (by decide), ar 9 (by decide) (by decide), ar 10 (by decide) (by decide), ar 11 (by decide) (by decide), ar 12 (by decide) (by decide), ar 14 (by decide) (by decide), ar 15 (by decide) (by decide), hlo 10 (by decide) (by decide) (by decide) (by decide), h013, hlo 12 (by decide) (by decide) (by decide) (by decide), hlo 11 (by decide) (by decide) (by decide) (by decide), hr8 8 (by decide) (by decide), hr8 7 (by decide) (by decide)]
        refine ⟨⟨s1.1.1, s1.1.2.1, s1.1.2.2.1, rfl⟩, s1.2.1, s1.2.2.1, s1.2.2.2.1, s1.2.2.2.2.1, fun f hf => ?_⟩
        by_cases hfS : f = D 0 3
        · rw [hfS, a16]; exact h9
        · rw [as f hfS, hr9 f hfS]; exact s1.2.2.2.2.2 f (by omega)
      · exact ⟨by rw [hlo 14 (by decide) (by decide) (by decide) (by decide)]; exact s2.1, by rw [hlo 15 (by decide) (by decide) (by decide) (by decide)]; exact s2.2.1, by rw [d2'.2 16 (by omega), up2_si (by decide), up2_n (by decide), b8]; exact s2.2.2.1, by rw [d2'.2 17 (by omega), up2_si (by decide), up2_n (by decide)]; exact h17⟩
    · obtain ⟨w', d1', d2', d3'⟩ := BQ_t (hT.x hF7) hn hb (BQ_0 (j := 13) (x := nI (D 0 3 + 1)) (BQ_row (k := 9) (j := D 0 3) (x := bw) hQ (by decide)) (by omega))
      have hc0 : ¬ v6 0 3 = 0 := by
        rw [hF.1]
        intro e
        have := d3'.2.2
        have := (nI_eq (a := c) (b := 0) (by omega) (by decide)).1 e
        omega
      rw [if_neg hc0]
      exact ⟨false, _, _, w', rfl, d1', hF7.tr (FrX.k d2'), .inl ⟨rfl, c, a, ⟨by rw [up2_si (by decide)]; exact hF.1, by rw [up2_si (by decide)]; exact hF.2⟩, d3', ha⟩⟩
