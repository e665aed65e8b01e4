/-! ===== PURE: lists of numbers ===== -/
theorem isn4 {n i hi : Nat} {t : Nat → Nat} {bits : Nat} (h : nfC n t i 0 hi bits = 0) : nfC n t i 0 hi 0 = 0 ∧ bits.testBit (tkV n t i) = false := by
  obtain ⟨a, b, c, d⟩ := nfC_0 h
  refine ⟨?_, d⟩
  rw [nfC_so] at h
  by_cases h0 : nfC n t i 0 hi 0 = 0
  · exact h0
  · rw [if_pos h0] at h; exact h
theorem L4_s {v : SV} (u : SV) {n i hi bits cnt : Nat} {t : Nat → Nat} (hC : CT v n t i) (hn : n ≤ 160) (hb : ∀ j, t j ≤ 127) (hhi : hi ≤ 6) (hbt : bits < 128) (hc : cnt ≤ 160) : ∃ v', FrC v v' ∧ ((tkK n t i = 4 ∧ m_X0_readBits_L4 u (nI hi) (nI bits, nI cnt, v) = some (.inr (.inl (nI bits, nI cnt, v'))) ∧ Fc v' 1 (skA n t i)) ∨ (tkK n t i = 3 ∧ m_X0_readBits_L4 u (nI hi) (nI bits, nI cnt, v) = some (.inr (.inl (nI bits, nI cnt, v'))) ∧ CT v' n t (tkE n t i)) ∨ (tkK n t i ≠ 4 ∧ tkK n t i ≠ 3 ∧ nfC n t i 0 hi bits ≠ 0 ∧ m_X0_readBits_L4 u (nI hi) (nI bits, nI cnt, v) = some (.inr (.inr (nI 0, v'))) ∧ Fc v' (nfC n t i 0 hi bits) (skA n t i)) ∨ (nfC n t i 0 hi bits = 0 ∧ m_X0_readBits_L4 u (nI hi) (nI bits, nI cnt, v) = some (.inl (nI (bits ||| 2 ^ tkV n t i), nI (cnt + 1), v')) ∧ CT v' n t (tkE n t i))) := by
  obtain ⟨v1, a1, a2, a3⟩ := readToken_s u hC hn hb
  have hL : ¬ (160 : Int32) < nI cnt := fun h => by
    have := (cast_lt (a := 160) (b := cnt) (by decide) (by omega)).mp h
    omega
  unfold m_X0_readBits_L4
  dsimp only
  rw [if_neg hL]
  rcases a3 with ⟨b1, b2, b3⟩ | ⟨b1, b2, b3, b4, b5⟩
  · rw [b2, some_bind]
    exact ⟨v1, a1, .inl ⟨b1, rfl, b3⟩⟩
  · rw [b2, some_bind]
    dsimp +instances only
    rw [if_neg (show ¬ (1 : Int32) = 0 by decide), b4]
    by_cases h3 : tkK n t i = 3
    · rw [h3, if_pos (show nI 3 = (3 : Int32) from rfl)]
      exact ⟨v1, a1, .inr (.inl ⟨rfl, rfl, b3⟩)⟩
    · have hk := tkK_lt n t i
      rw [if_neg (show ¬ nI (tkK n t i) = (3 : Int32) from fun e => h3 ((nI_eq (b := 3) (by omega) (by omega)).1 e))]
      obtain ⟨v2, c1, c2, c3⟩ := isNumber_s u (lo := 0) (hi := hi) b3 a2 b4 b5 b1 hb (by omega) (by omega)
      rw [show m_X0_isNumber v1 u (0 : Int32) (nI hi) = m_X0_isNumber v1 u (nI 0) (nI hi) from rfl]
      rcases c3 with ⟨d1, d2, d3⟩ | ⟨d1, d2, d3, d4⟩
      · rw [d2, some_bind]
        exact ⟨v2, a1.tr c1, .inr (.inr (.inl ⟨b1, h3, by rw [nfC_so, if_pos d1]; exact d1, rfl, by rw [nfC_so, if_pos d1]; exact d3⟩))⟩
      · obtain ⟨z1, z2, z3, -⟩ := nfC_0 d1
        rw [d2, some_bind]
        dsimp +instances only
        rw [if_neg (show ¬ (1 : Int32) = 0 by decide), d4, ifp (b_t1 (m := bits) (s := tkV n t i) (by omega) (by omega)), c2, refuse_s, some_bind]
        have hnf : nfC n t i 0 hi bits = if bits.testBit (tkV n t i) then 4 else 0 := by rw [nfC_so, if_neg (show ¬ nfC n t i 0 hi 0 ≠ 0 from fun h => h d1)]
        cases htb : bits.testBit (tkV n t i) with
        | true =>
          rw [htb, if_pos rfl] at hnf
          rw [if_pos rfl]
          exact ⟨_, (a1.tr c1).tr (FrC_up _ _ _), .inr (.inr (.inl ⟨b1, h3, by omega, rfl, by rw [hnf]; exact Fc_up _ 4 _⟩))⟩
        | false =>
          rw [htb, if_neg (show ¬ false = true by simp)] at hnf
          rw [if_neg (show ¬ false = true by simp), b_two (by omega), nx_or, i1]
          exact ⟨v2, a1.tr c1, .inr (.inr (.inr ⟨hnf, rfl, d3⟩))⟩
def BQ (n : Nat) (t : Nat → Nat) (w : SV) (c a : Nat) : Prop := Bk w c a ∨ ∃ p, p ≤ n ∧ LK w n t p ∧ sgC n t p = c ∧ c ≠ 0 ∧ skA n t p = a
theorem BQ_row {n : Nat} {t : Nat → Nat} {w : SV} {c a k j : Nat} {x : Int32} (h : BQ n t w c a) (hk : k ≠ 0) : BQ n t (up2 w k j x) c a := by
  rcases h with h | ⟨p, hp, h, h2⟩
  · exact .inl (Bk_row h hk)
  · exact .inr ⟨p, hp, LK_row h hk, h2⟩
theorem BQ_0 {n : Nat} {t : Nat → Nat} {w : SV} {c a j : Nat} {x : Int32} (h : BQ n t w c a) (hj : j < 21 ∨ 26 < j) : BQ n t (up2 w 0 j x) c a := by
  rcases h with h | ⟨p, hp, h, h2⟩
  · exact .inl (Bk_0 h hj)
  · exact .inr ⟨p, hp, LK_up h hj, h2⟩
theorem BQ_t {n : Nat} {t : Nat → Nat} {w : SV} {c a : Nat} (hT : RT w n t) (hn : n ≤ 160) (hb : ∀ j, t j ≤ 127) (h : BQ n t w c a) : ∃ w', tlR w = some w' ∧ FrK w w' ∧ Bk w' c a := by
  rcases h with h | ⟨p, hp, h, h2, h3, h4⟩
  · exact ⟨w, tail_b h, FrK.rf, h⟩
  · obtain ⟨w', d1, d2, d3⟩ := tail_s hT hn hb hp h
    rcases d3 with ⟨e1, e2⟩ | ⟨e1, -⟩
    · rw [h2, h4] at e2
      exact ⟨w', d1, d2, e2⟩
    · omega
theorem L54_b {w : SV} {c a : Nat} (h : Bk w c a) (x : Int32) : m_X6_readSitter_L54 (x, w) = some (.inr (x, w)) := by
  unfold m_X6_readSitter_L54
  rw [if_neg (Bk_n0 h)]
theorem bits_lt {bits V hi : Nat} (h : bits < 2 ^ (hi + 1)) (hV : V ≤ hi) : bits ||| 2 ^ V < 2 ^ (hi + 1) := Nat.or_lt_two_pow h (p2_lt (by omega))
theorem bitsS {n : Nat} {t : Nat → Nat} (u : SV) (hn : n ≤ 160) (hb : ∀ j, t j ≤ 127) : ∀ (m i bits cnt : Nat) (v w : SV), n - i < m → cnt + m ≤ 161 → bits < 128 → CT v n t i → LK w n t i → RT w n t → ∃ (ok : Bool) (p : Nat) (v' w' : SV) (bc bw : Int32) (r : (Int32 × Int32 × SV) ⊕ (Int32 × SV)), i ≤ p ∧ FrC v v' ∧ FrK w w' ∧ lpC (m_X0_readBits_L4 u (nI 6)) (nI bits, nI cnt, v) = some r ∧ Sum.elim m_X0_readBits_K4 (fun y => some y) r = some (bc, v') ∧ lpC m_X6_readSitter_L54 (nI bits, w) = some (bw, w') ∧ ((ok = true ∧ (∃ B, B < 128 ∧ bc = nI B ∧ bw = nI B) ∧ p ≤ n ∧ tkK n t p = 3 ∧ CT v' n t (tkE n t p) ∧ LK w' n t p) ∨ (ok = false ∧ ∃ c a, Fc v' c a ∧ BQ n t w' c a ∧ a ≤ n)) := by
  intro m
  induction m with
  | zero => intro i bits cnt v w h; omega
  | succ m ih =>
    intro i bits cnt v w hm hc hbt hC hL hT
    have hin := hC.2.2.2.1
    have hV := tkV_lt n t i hb
    have hkl := tkK_lt n t i
    obtain ⟨v1, a1, a2⟩ := L4_s u (hi := 6) (bits := bits) (cnt := cnt) hC hn hb (by omega) hbt (by omega)
    -- the reference goes out of the loop at once
    have hout : tkK n t i ≠ 2 → lpC m_X6_readSitter_L54 (nI bits, w) = some (nI bits, w) := fun h2 => by
      apply lp_done
      unfold m_X6_readSitter_L54
      dsimp only
      rcases hL with ⟨-, l21, -⟩ | ⟨-, l21, -, l25, -⟩
      · rw [if_neg (by rw [l21]; decide)]
      · rw [if_pos (show w 0 21 = 0 from l21), if_neg]
        rw [l25]
        intro e
        exact h2 ((nI_eq (b := 2) (by omega) (by omega)).1 e)
    rcases a2 with ⟨b1, b2, b3⟩ | ⟨b1, b2, b3⟩ | ⟨b4, b3, b1, b2, b5⟩ | ⟨b1, b2, b3⟩
    · rcases hL with ⟨-, l21, l22⟩ | ⟨l4, -⟩
      · exact ⟨false, i, v1, w, _, _, _, Nat.le_refl i, a1, FrK.rf, lp_done b2, rfl, hout (by omega), .inr ⟨rfl, 1, _, b3, .inl ⟨l21, l22, by omega, by omega⟩, skA_le t hin⟩⟩
      · exact absurd b1 l4
    · exact ⟨true, i, v1, w, _, _, _, Nat.le_refl i, a1, FrK.rf, lp_done b2, rfl, hout (by omega), .inl ⟨rfl, ⟨bits, hbt, rfl, rfl⟩, hin, b1, b3, hL⟩⟩
    · by_cases h2 : tkK n t i = 2
      · obtain ⟨y, w1, o1, o2, o3⟩ := other_s (lo := 0) (hi := 6) (so := bits) hT hn hb hin hL (by omega) (by omega) (by omega)
        rcases o3 with ⟨k1, rfl, k3⟩ | ⟨k1, -⟩
        · have hst : m_X6_readSitter_L54 (nI bits, w) = some (.inl ((nI bits ||| ((1 : Int32) <<< (nI 0 &&& 31))), w1)) := by
            unfold m_X6_readSitter_L54
            dsimp only
            rcases hL with ⟨l4, -⟩ | ⟨-, l21, -, l25, -⟩
            · exact absurd l4 b4
            · rw [if_pos (show w 0 21 = 0 from l21), if_pos (by rw [l25, h2]; rfl), show m_X6_other w (0 : Int32) (6 : Int32) (nI bits) = some (nI 0, w1) from o1, some_bind]
          exact ⟨false, i, v1, w1, _, _, _, Nat.le_refl i, a1, o2, lp_done b2, rfl, (lp_next hst).trans (lp_done (L54_b k3 _)), .inr ⟨rfl, _, _, b5, .inl k3, skA_le t hin⟩⟩
        · exact absurd k1 b1
      · have hnf : nfC n t i 0 6 bits = 2 := by unfold nfC; rw [if_neg b4, if_pos h2]
        have hsg : sgC n t i = 2 := by unfold sgC; rw [if_neg b4, if_pos b3]
        exact ⟨false, i, v1, w, _, _, _, Nat.le_refl i, a1, FrK.rf, lp_done b2, rfl, hout h2, .inr ⟨rfl, _, _, b5, .inr ⟨i, hin, hL, by rw [hsg, hnf], b1, rfl⟩, skA_le t hin⟩⟩
    · obtain ⟨y, w1, o1, o2, o3⟩ := other_s (lo := 0) (hi := 6) (so := bits) hT hn hb hin hL (by omega) (by omega) (by omega)
      rcases o3 with ⟨k1, -⟩ | ⟨k1, rfl, k3⟩
      · exact absurd b1 k1
      · obtain ⟨z1, z2, z3, -⟩ := nfC_0 b1
        have hst : m_X6_readSitter_L54 (nI bits, w) = some (.inl (nI (bits ||| 2 ^ tkV n t i), w1)) := by
          unfold m_X6_readSitter_L54
          dsimp only
          rcases hL with ⟨l4, -⟩ | ⟨-, l21, -, l25, -⟩
          · omega
          · rw [if_pos (show w 0 21 = 0 from l21), if_pos (by rw [l25, z1]; rfl), show m_X6_other w (0 : Int32) (6 : Int32) (nI bits) = some (nI (tkV n t i), w1) from o1, some_bind]
            dsimp only
            rw [b_two (by omega), nx_or]
        have hgt := tkE_gt (t := t) hin (by omega) (by omega)
        have hin2 := tkE_le t hin
        obtain ⟨ok, p, v2, w2, bc, bw, r, c1, c2, c3, c4, c5, c6, c7⟩ := ih (tkE n t i) (bits ||| 2 ^ tkV n t i) (cnt + 1) v1 w1 (by omega) (by omega) (bits_lt (hi := 6) hbt z3) b3 k3 (hT.k o2)
        exact ⟨ok, p, v2, w2, bc, bw, r, by omega, a1.tr c2, o2.tr c3, (lp_next b2).trans c4, c5, (lp_next hst).trans c6, c7⟩
