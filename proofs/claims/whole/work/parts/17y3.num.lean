/-! ===== PURE: names, numbers, signs, bits ===== -/
def lenK (k : Nat) : Nat := sLen.getD k 0
def chK (k j : Nat) : Nat := ((sByt.getD k []).getD j 0).toNatClampNeg
def cutK (k : Nat) : Nat := (v_X6 27 k).toNatClampNeg
theorem nmc_chk : ∀ k, k < 9 → ∀ j, j < lenK k → sCh k (nI j) = nI (chK k j) ∧ chK k j < 128 := by decide +kernel
theorem nmr_chk : ∀ k, k < 9 → v_X6 27 (k + 1) - v_X6 27 k = nI (lenK k) ∧ lenK k < 9 ∧ ∀ j, j < lenK k → v_X6 27 k + nI j = nI (cutK k + j) ∧ cutK k + j < 48 ∧ v_X6 28 (cutK k + j) = nI (chK k j) := by decide +kernel
def nmB (t : Nat → Nat) (a len k : Nat) : Bool := decide (len = lenK k) && allN (fun j => decide (t (a + j) = chK k j)) (lenK k)
theorem isName_s {v : SV} (u : SV) {n a e k : Nat} {t : Nat → Nat} (h6 : v 0 6 = nI a) (h7 : v 0 7 = nI e) (hae : a ≤ e) (hen : e ≤ n) (hn : n ≤ 160) (ht : ∀ j, j < n → v 50 j = nI (t j)) (hb : ∀ j, t j ≤ 127) (hk : k < 9) : m_X0_isName v u k = some (bI (nmB t a (e - a) k)) := by
  have hl9 := (nmr_chk k hk).2.1
  unfold m_X0_isName
  rw [h6, h7, pk_sub hae, show nI (sLen.getD k 0) = nI (lenK k) from rfl, ifp (cast_eq (by omega) (by omega))]
  unfold nmB
  by_cases hc : lenK k = e - a
  · rw [if_pos hc, show decide (e - a = lenK k) = true from decide_eq_true hc.symm, Bool.true_and]
    rw [show (0 : Int32) = (fun j => nI j) 0 from rfl]
    rw [lp_first (step := m_X0_isName_L22 v k) (fun j => nI j) (fun j => ! decide (t (a + j) = chK k j)) (fun _ => .inr (0 : Int32)) (.inl (nI (lenK k))) (lenK k)]
    · rw [allN_first]
      cases firstN (fun j => ! decide (t (a + j) = chK k j)) (lenK k) <;> rfl
    · intro j hj hg
      obtain ⟨c1, c2⟩ := nmc_chk k hk j hj
      have hbj := hb (a + j)
      unfold m_X0_isName_L22
      simp only [Bool.not_eq_false', decide_eq_true_eq] at hg
      rw [h6, h7, pk_sub hae, if_neg (nI_ge (by omega) (by omega)), show sLen.getD k 0 = lenK k from rfl, inB_nI hj (by omega), ck_true, nI_add, inB_nI (by omega) (by omega), ck_true, nI_clamp (by omega), ht _ (by omega), c1, hg, if_pos rfl, nI_1]
    · intro j hj hg
      obtain ⟨c1, c2⟩ := nmc_chk k hk j hj
      have hbj := hb (a + j)
      unfold m_X0_isName_L22
      simp only [Bool.not_eq_true', decide_eq_false_iff_not] at hg
      rw [h6, h7, pk_sub hae, if_neg (nI_ge (by omega) (by omega)), show sLen.getD k 0 = lenK k from rfl, inB_nI hj (by omega), ck_true, nI_add, inB_nI (by omega) (by omega), ck_true, nI_clamp (by omega), ht _ (by omega), c1, ifp (cast_eq (by omega) (by omega)), if_neg (fun h => hg h.symm)]
    · unfold m_X0_isName_L22
      rw [h6, h7, pk_sub hae, if_pos (nI_le (by omega) (by omega))]
  · rw [if_neg hc, show decide (e - a = lenK k) = false from decide_eq_false (fun h => hc h.symm), Bool.false_and]
    rfl
theorem nameOf_s : ∀ k, k < 9 → m_X0_nameOf (nI k) = some k := by decide +kernel
theorem lineBegun_s {v : SV} (u : SV) {n a e : Nat} {t : Nat → Nat} (h6 : v 0 6 = nI a) (h7 : v 0 7 = nI e) (hae : a ≤ e) (hen : e ≤ n) (hn : n ≤ 160) (ht : ∀ j, j < n → v 50 j = nI (t j)) (hb : ∀ j, t j ≤ 127) : m_X0_lineBegun v u = some (oI (firstN (nmB t a (e - a)) 9)) := by
  unfold m_X0_lineBegun
  rw [show (0 : Int32) = (fun j => nI j) 0 from rfl]
  rw [lp_first (step := m_X0_lineBegun_L2 v u) (fun j => nI j) (nmB t a (e - a)) (fun k => .inr (nI k)) (.inl (nI 9)) 9]
  · cases firstN (nmB t a (e - a)) 9 <;> rfl
  · intro k hk hg
    unfold m_X0_lineBegun_L2
    rw [show (9 : Int32) = nI 9 from rfl, if_neg (nI_ge hk (by omega)), nameOf_s k hk, some_bind, isName_s u h6 h7 hae hen hn ht hb hk, some_bind, hg, if_pos (show bI false = 0 from rfl), nI_1]
  · intro k hk hg
    unfold m_X0_lineBegun_L2
    rw [show (9 : Int32) = nI 9 from rfl, if_neg (nI_ge hk (by omega)), nameOf_s k hk, some_bind, isName_s u h6 h7 hae hen hn ht hb hk, some_bind, hg, if_neg (by decide)]
  · unfold m_X0_lineBegun_L2
    rw [show (9 : Int32) = nI 9 from rfl, if_pos (nI_le (Nat.le_refl _) (by omega))]
theorem nameHere_s {w : SV} {n a e : Nat} {t : Nat → Nat} (hT : RT w n t) (h24 : w 0 24 = nI a) (h23 : w 0 23 = nI e) (h25 : w 0 25 = nI 1) (h27 : w 27 = v_X6 27) (h28 : w 28 = v_X6 28) (hae : a ≤ e) (hen : e ≤ n) (hn : n ≤ 160) (hb : ∀ j, t j ≤ 127) : m_X6_nameHere w = some (oI (firstN (nmB t a (e - a)) 9)) := by
  have hJ : ∀ k, k < 9 → ∀ z : Bool, z = decide (e - a = lenK k) → m_X6_nameHere_J48 w (nI k) (bI z) = if nmB t a (e - a) k then some (.inr (.inr (nI k))) else some (.inl (nI (k + 1))) := by
    intro k hk z hz
    obtain ⟨-, hl9, hr⟩ := nmr_chk k hk
    unfold m_X6_nameHere_J48
    have := lp_inv (step := m_X6_nameHere_L51 w (nI k)) (fun j y => (y = (bI z, nI j) ∧ (z = true → allN (fun j => decide (t (a + j) = chK k j)) j = true)) ∨ (y.1 = 0 ∧ z = true ∧ allN (fun j => decide (t (a + j) = chK k j)) (lenK k) = false)) (fun r => r.1 = bI (nmB t a (e - a) k)) (lenK k) ?_ ?_ (s0 := (bI z, (0 : Int32))) (.inl ⟨rfl, fun _ => rfl⟩)
    · obtain ⟨r, hr1, hr2⟩ := this
      rw [hr1, some_bind]
      unfold m_X6_nameHere_K51
      rw [hr2, ifp (bI_0 _), nI_1]
      cases nmB t a (e - a) k <;> rfl
    · rintro j y hj (⟨rfl, hall⟩ | ⟨h1, h2, h3⟩)
      · unfold m_X6_nameHere_L51
        dsimp +instances only
        rw [ifp (bI_0 _)]
        cases hzz : z with
        | false =>
          right
          rw [if_pos rfl]
          refine ⟨_, rfl, ?_⟩
          unfold nmB
          rw [← hz, hzz]
          rfl
        | true =>
          left
          have hlen : e - a = lenK k := by rw [hzz] at hz; exact of_decide_eq_true hz.symm
          obtain ⟨q1, q2, q3⟩ := hr j hj
          have hbj := hb (a + j)
          obtain ⟨-, c2⟩ := nmc_chk k hk j hj
          rw [if_neg (by simp), h23, h24, pk_sub hae, if_neg (nI_ge (by omega) (by omega)), nI_add, byteAt_s hT hn (by omega), some_bind, if_pos (show a + j < n by omega), inB_nI (by omega) (by omega), ck_true, nI_clamp (by omega), h27, h28, q1, inB_nI (by omega) (by omega), ck_true, nI_clamp (by omega), q3, ifp (cast_eq (by omega) (by omega)), nI_1]
          by_cases hc : t (a + j) = chK k j
          · rw [if_pos hc]
            refine ⟨_, rfl, .inl ⟨rfl, fun _ => ?_⟩⟩
            simp only [allN]
            rw [hall hzz, decide_eq_true hc]
            rfl
          · rw [if_neg hc]
            refine ⟨_, rfl, .inr ⟨rfl, rfl, ?_⟩⟩
            cases ha : allN (fun j => decide (t (a + j) = chK k j)) (lenK k) with
            | false => rfl
            | true => have := (allN_iff _).mp ha j hj; simp [hc] at this
      · right
        unfold m_X6_nameHere_L51
        rw [h1, if_pos rfl]
        refine ⟨_, rfl, ?_⟩
        unfold nmB
        rw [h3, Bool.and_false]
        rfl
    · rintro y (⟨rfl, hall⟩ | ⟨h1, h2, h3⟩)
      · unfold m_X6_nameHere_L51
        dsimp +instances only
        rw [ifp (bI_0 _)]
        cases hzz : z with
        | false =>
          rw [if_pos rfl]
          refine ⟨_, rfl, ?_⟩
          unfold nmB
          rw [← hz, hzz]
          rfl
        | true =>
          have hlen : e - a = lenK k := by rw [hzz] at hz; exact of_decide_eq_true hz.symm
          rw [if_neg (by simp), h23, h24, pk_sub hae, if_pos (nI_le (by omega) (by omega))]
          refine ⟨_, rfl, ?_⟩
          unfold nmB
          rw [← hz, hzz, hall hzz]
          rfl
      · unfold m_X6_nameHere_L51
        rw [h1, if_pos rfl]
        refine ⟨_, rfl, ?_⟩
        unfold nmB
        rw [h3, Bool.and_false]
        rfl
  have hst : ∀ k, k < 9 → m_X6_nameHere_L2 w (nI k) = if nmB t a (e - a) k then some (.inr (.inr (nI k))) else some (.inl (nI (k + 1))) := by
    intro k hk
    obtain ⟨hc1, hl9, -⟩ := nmr_chk k hk
    have h1 := hJ k hk (decide (e - a = lenK k)) rfl
    unfold m_X6_nameHere_L2
    rw [show (9 : Int32) = nI 9 from rfl, if_neg (nI_ge hk (by omega)), h25, if_pos (show nI 1 = (1 : Int32) from rfl), nI_1, inB_nI (by omega) (by omega), ck_true, inB_nI (by omega) (by omega), ck_true, nI_clamp (by omega), nI_clamp (by omega), h27, hc1, h23, h24, pk_sub hae, ifp (cast_eq (by omega) (by omega))]
    by_cases hc : e - a = lenK k
    · rw [if_pos hc]
      rw [decide_eq_true hc] at h1
      exact h1
    · rw [if_neg hc]
      rw [decide_eq_false hc] at h1
      exact h1
  unfold m_X6_nameHere
  rw [show (0 : Int32) = (fun j => nI j) 0 from rfl]
  rw [lp_first (step := m_X6_nameHere_L2 w) (fun j => nI j) (nmB t a (e - a)) (fun k => .inr (nI k)) (.inl (nI 9)) 9]
  · cases firstN (nmB t a (e - a)) 9 <;> rfl
  · intro k hk hg
    rw [hst k hk, hg, if_neg (by simp)]
  · intro k hk hg
    rw [hst k hk, hg, if_pos rfl]
  · unfold m_X6_nameHere_L2
    rw [show (9 : Int32) = nI 9 from rfl, if_pos (nI_le (Nat.le_refl _) (by omega))]
/-! numbers -/
def nfC (n : Nat) (t : Nat → Nat) (i lo hi so : Nat) : Nat := if tkK n t i = 4 then 1 else if ¬ tkK n t i = 2 then 2 else if ¬ (lo ≤ tkV n t i ∧ tkV n t i ≤ hi) then 3 else if so.testBit (tkV n t i) then 4 else 0
theorem nfC_le (n : Nat) (t : Nat → Nat) (i lo hi so : Nat) : nfC n t i lo hi so ≤ 6 := by
  unfold nfC
  split
  · omega
  · split
    · omega
    · split
      · omega
      · split <;> omega
theorem nfC_0 {n i lo hi so : Nat} {t : Nat → Nat} (h : nfC n t i lo hi so = 0) : tkK n t i = 2 ∧ lo ≤ tkV n t i ∧ tkV n t i ≤ hi ∧ so.testBit (tkV n t i) = false := by
  unfold nfC at h
  by_cases c1 : tkK n t i = 4
  · rw [if_pos c1] at h; omega
  · rw [if_neg c1] at h
    by_cases c2 : tkK n t i = 2
    · rw [if_neg (by omega)] at h
      by_cases c3 : lo ≤ tkV n t i ∧ tkV n t i ≤ hi
      · rw [if_neg (by omega)] at h
        cases hb : so.testBit (tkV n t i) with
        | false => exact ⟨c2, c3.1, c3.2, rfl⟩
        | true => rw [hb, if_pos rfl] at h; omega
      · rw [if_pos (by omega)] at h; omega
    · rw [if_pos c2] at h; omega
theorem isNumber_s {v : SV} (u : SV) {n i lo hi : Nat} {t : Nat → Nat} (h : CT v n t (tkE n t i)) (h6 : v 0 6 = nI (skA n t i)) (h5 : v 0 5 = nI (tkK n t i)) (h8 : tkK n t i = 2 → v 0 8 = nI (tkV n t i)) (hk : tkK n t i ≠ 4) (hb : ∀ j, t j ≤ 127) (hlo : lo < 1000) (hhi : hi < 1000) : ∃ v', FrC v v' ∧ v' 0 6 = nI (skA n t i) ∧ ((nfC n t i lo hi 0 ≠ 0 ∧ m_X0_isNumber v u (nI lo) (nI hi) = some (0, v') ∧ Fc v' (nfC n t i lo hi 0) (skA n t i)) ∨ (nfC n t i lo hi 0 = 0 ∧ m_X0_isNumber v u (nI lo) (nI hi) = some (1, v') ∧ CT v' n t (tkE n t i) ∧ v' 0 8 = nI (tkV n t i))) := by
  have hk4 := tkK_lt n t i
  have hV := tkV_lt n t i hb
  unfold m_X0_isNumber nfC
  rw [if_neg hk, h5, ifp (show (nI (tkK n t i) = (2 : Int32)) = (tkK n t i = 2) from cast_eq (b := 2) (by omega) (by omega)), h6, refuse_s, refuse_s, some_bind, some_bind]
  by_cases c2 : tkK n t i = 2
  · rw [if_pos c2, if_neg (show ¬ ¬ tkK n t i = 2 by omega), h8 c2, ifp (cast_lt (by omega) (by omega)), ifp (cast_le (by omega) (by omega)), Nat.zero_testBit, if_neg (show ¬ false = true by simp)]
    by_cases c3 : tkV n t i < lo
    · rw [if_pos c3, if_pos (by omega)]
      exact ⟨_, FrC_up v _ _, by rw [up2_si (by decide), up2_si (by decide), h6], .inl ⟨by decide, rfl, Fc_up v 3 _⟩⟩
    · rw [if_neg c3]
      by_cases c4 : tkV n t i ≤ hi
      · rw [if_pos c4, if_neg (by omega)]
        exact ⟨v, FrC.rf, h6, .inr ⟨rfl, rfl, h, h8 c2⟩⟩
      · rw [if_neg c4, if_pos (by omega)]
        exact ⟨_, FrC_up v _ _, by rw [up2_si (by decide), up2_si (by decide), h6], .inl ⟨by decide, rfl, Fc_up v 3 _⟩⟩
  · rw [if_neg c2, if_pos c2]
    exact ⟨_, FrC_up v _ _, by rw [up2_si (by decide), up2_si (by decide), h6], .inl ⟨by decide, rfl, Fc_up v 2 _⟩⟩
theorem readNumber_s {v : SV} (u : SV) {n i lo hi : Nat} {t : Nat → Nat} (h : CT v n t i) (hn : n ≤ 160) (hb : ∀ j, t j ≤ 127) (hlo : lo < 1000) (hhi : hi < 1000) : ∃ v', FrC v v' ∧ v' 0 6 = nI (skA n t i) ∧ ((nfC n t i lo hi 0 ≠ 0 ∧ m_X0_readNumber v u (nI lo) (nI hi) = some (0, v') ∧ Fc v' (nfC n t i lo hi 0) (skA n t i)) ∨ (nfC n t i lo hi 0 = 0 ∧ m_X0_readNumber v u (nI lo) (nI hi) = some (1, v') ∧ CT v' n t (tkE n t i) ∧ v' 0 8 = nI (tkV n t i))) := by
  obtain ⟨v1, f1, f2, f3⟩ := readToken_s u h hn hb
  unfold m_X0_readNumber
  rcases f3 with ⟨g1, g2, g3⟩ | ⟨g1, g2, g3, g4, g5⟩
  · rw [g2, some_bind]
    have e : nfC n t i lo hi 0 = 1 := by unfold nfC; rw [if_pos g1]
    rw [e]
    exact ⟨v1, f1, f2, .inl ⟨by decide, rfl, g3⟩⟩
  · obtain ⟨v2, k1, k2, k3⟩ := isNumber_s u (lo := lo) (hi := hi) g3 f2 g4 g5 g1 hb hlo hhi
    rw [g2, some_bind]
    dsimp +instances only
    rw [if_neg (show ¬ (1 : Int32) = 0 from by decide)]
    rcases k3 with ⟨l1, l2, l3⟩ | ⟨l1, l2, l3, l4⟩
    · rw [l2, some_bind]
      exact ⟨v2, f1.tr k1, k2, .inl ⟨l1, rfl, l3⟩⟩
    · rw [l2, some_bind]
      exact ⟨v2, f1.tr k1, k2, .inr ⟨l1, rfl, l3, l4⟩⟩
def sgC (n : Nat) (t : Nat → Nat) (i : Nat) : Nat := if tkK n t i = 4 then 1 else if ¬ tkK n t i = 3 then 2 else 0
theorem readSign_s {v : SV} (u : SV) {n i : Nat} {t : Nat → Nat} (h : CT v n t i) (hn : n ≤ 160) (hb : ∀ j, t j ≤ 127) : ∃ v', FrC v v' ∧ ((sgC n t i ≠ 0 ∧ m_X0_readSign v u = some (0, v') ∧ Fc v' (sgC n t i) (skA n t i)) ∨ (sgC n t i = 0 ∧ m_X0_readSign v u = some (1, v') ∧ CT v' n t (tkE n t i))) := by
  have hk4 := tkK_lt n t i
  obtain ⟨v1, f1, f2, f3⟩ := readToken_s u h hn hb
  unfold m_X0_readSign sgC
  rcases f3 with ⟨g1, g2, g3⟩ | ⟨g1, g2, g3, g4, g5⟩
  · rw [g2, some_bind, if_pos g1]
    exact ⟨v1, f1, .inl ⟨by decide, rfl, g3⟩⟩
  · rw [g2, some_bind, if_neg g1]
    dsimp +instances only
    rw [if_neg (show ¬ (1 : Int32) = 0 from by decide), g4, ifp (show (nI (tkK n t i) = (3 : Int32)) = (tkK n t i = 3) from cast_eq (b := 3) (by omega) (by omega)), f2, refuse_s, some_bind]
    by_cases c3 : tkK n t i = 3
    · rw [if_pos c3, if_neg (show ¬ ¬ tkK n t i = 3 by omega)]
      exact ⟨v1, f1, .inr ⟨rfl, rfl, g3⟩⟩
    · rw [if_neg c3, if_pos c3]
      exact ⟨_, f1.tr (FrC_up v1 _ _), .inl ⟨by decide, rfl, Fc_up v1 2 _⟩⟩
/-! the reference's numbers -/
def Bk (w : SV) (c a : Nat) : Prop := w 0 21 = nI c ∧ w 0 22 = nI a ∧ 1 ≤ c ∧ c ≤ 6
theorem J47_b {w : SV} {c a : Nat} (h : Bk w c a) (x1 x3 : Int32) : m_X6_other_J47 x1 x3 w = some (x1, w) := by
  have hne : ¬ w 0 21 = 0 := by rw [h.1]; exact nI_ne0 (by have := h.2.2; omega) (by have := h.2.2; omega)
  unfold m_X6_other_J47
  rw [if_neg hne, if_neg hne, step_b h.1 (by have := h.2.2; omega) h.2.2.2, some_bind]
theorem J20_b {w : SV} {c a : Nat} (h : Bk w c a) (x1 x2 x3 : Int32) : m_X6_other_J20 x1 x2 x3 w = some (x1, w) := by
  have hne : ¬ w 0 21 = 0 := by rw [h.1]; exact nI_ne0 (by have := h.2.2; omega) (by have := h.2.2; omega)
  unfold m_X6_other_J20
  rw [if_neg hne, J47_b h]
theorem other_b {w : SV} {c a : Nat} (h : Bk w c a) (x1 x2 x3 : Int32) : m_X6_other w x1 x2 x3 = some (x1, w) := by
  have hne : ¬ w 0 21 = 0 := by rw [h.1]; exact nI_ne0 (by have := h.2.2; omega) (by have := h.2.2; omega)
  unfold m_X6_other
  rw [if_neg hne, J20_b h]
theorem Bk_up (w : SV) (c a : Nat) (h1 : 1 ≤ c) (h2 : c ≤ 6) : Bk (up2 (up2 w 0 21 (nI c)) 0 22 (nI a)) c a := ⟨by rw [up2_si (by decide), up2_ss], up2_ss, h1, h2⟩
theorem FrK_up (w : SV) (x y : Int32) : FrK w (up2 (up2 w 0 21 x) 0 22 y) := (FrK.up (by omega)).tr (FrK.up (by omega))
theorem other_s {w : SV} {n i lo hi so : Nat} {t : Nat → Nat} (hT : RT w n t) (hn : n ≤ 160) (hb : ∀ j, t j ≤ 127) (hin : i ≤ n) (hL : LK w n t i) (hlo : lo < 32) (hhi : hi < 32) (hso : so < 2 ^ 31) : ∃ y w', m_X6_other w (nI lo) (nI hi) (nI so) = some (y, w') ∧ FrK w w' ∧ ((nfC n t i lo hi so ≠ 0 ∧ y = nI lo ∧ Bk w' (nfC n t i lo hi so) (skA n t i)) ∨ (nfC n t i lo hi so = 0 ∧ y = nI (tkV n t i) ∧ LK w' n t (tkE n t i))) := by
  have hV := tkV_lt n t i hb
  have hk4 := tkK_lt n t i
  rcases hL with ⟨k4, l21, l22⟩ | ⟨k4, l21, l24, l25, l23, l26⟩
  · have hB : Bk w 1 (skA n t i) := ⟨l21, l22, by omega, by omega⟩
    have e : nfC n t i lo hi so = 1 := by unfold nfC; rw [if_pos k4]
    rw [e]
    exact ⟨_, _, other_b hB _ _ _, FrK.rf, .inl ⟨by decide, rfl, hB⟩⟩
  · unfold m_X6_other nfC
    rw [if_neg k4, l21, if_pos (show nI 0 = (0 : Int32) from rfl), l25, ifp (show (nI (tkK n t i) = (2 : Int32)) = (tkK n t i = 2) from cast_eq (b := 2) (by omega) (by omega))]
    by_cases c2 : tkK n t i = 2
    · have e26 := l26 c2
      rw [if_pos c2, if_neg (show ¬ ¬ tkK n t i = 2 by omega)]
      unfold m_X6_other_J20
      rw [l21, if_pos (show nI 0 = (0 : Int32) from rfl), e26, inC_s (lo := lo) (hi := hi) (nI_64 (by omega)) (nI_64 (by omega)), some_bind, nI_toInt (by omega), ifp (bI_0 _), fails_0 l21 l24, some_bind]
      by_cases c3 : lo ≤ tkV n t i ∧ tkV n t i ≤ hi
      · rw [decide_eq_true (show (lo : Int) ≤ tkV n t i ∧ ((tkV n t i : Nat) : Int) ≤ hi by omega), if_neg (show ¬ true = false by simp), if_neg (show ¬ ¬ (lo ≤ tkV n t i ∧ tkV n t i ≤ hi) by omega)]
        unfold m_X6_other_J47
        rw [l21, if_pos (show nI 0 = (0 : Int32) from rfl), if_pos (show nI 0 = (0 : Int32) from rfl), e26, ifp (b_t1 hso (s := tkV n t i) (by omega)), fails_0 l21 l24, some_bind]
        cases hbit : so.testBit (tkV n t i) with
        | true =>
          have hB := Bk_up w 4 (skA n t i) (by omega) (by omega)
          have hne : ¬ up2 (up2 w 0 21 (nI 4)) 0 22 (nI (skA n t i)) 0 21 = 0 := by rw [hB.1]; exact nI_ne0 (by omega) (by omega)
          rw [if_pos rfl, if_pos rfl]
          show ∃ y w', (if up2 (up2 w 0 21 (nI 4)) 0 22 (nI (skA n t i)) 0 21 = 0 then _ else (m_X6_step (up2 (up2 w 0 21 (nI 4)) 0 22 (nI (skA n t i)))).bind _) = _ ∧ _
          rw [if_neg hne, step_b hB.1 (by omega) (by omega), some_bind]
          exact ⟨_, _, rfl, FrK_up w _ _, .inl ⟨by decide, rfl, hB⟩⟩
        | false =>
          rw [if_neg (show ¬ false = true by simp), if_neg (show ¬ false = true by simp)]
          obtain ⟨w', s1, s2, s3⟩ := step_s hT hn hb (tkE_le t hin) l21 l23
          rw [s1, some_bind]
          exact ⟨_, _, rfl, s3, .inr ⟨rfl, rfl, s2⟩⟩
      · rw [decide_eq_false (show ¬ ((lo : Int) ≤ tkV n t i ∧ ((tkV n t i : Nat) : Int) ≤ hi) by omega), if_pos rfl, if_pos c3]
        have hB := Bk_up w 3 (skA n t i) (by omega) (by omega)
        exact ⟨_, _, J47_b hB _ _, FrK_up w _ _, .inl ⟨by decide, rfl, hB⟩⟩
    · rw [if_neg c2, if_pos c2, fails_0 l21 l24, some_bind]
      have hB := Bk_up w 2 (skA n t i) (by omega) (by omega)
      exact ⟨_, _, J20_b hB _ _ _, FrK_up w _ _, .inl ⟨by decide, rfl, hB⟩⟩
/-- the highest that was told: 1 more; 0: none -/
def mxh (H V : Nat) : Nat := if H ≤ V then V + 1 else H
def FrH (w w' : SV) : Prop := (∀ k, k ≠ 0 → w' k = w k) ∧ ∀ j, j ≠ 16 → j ≠ 17 → (j < 21 ∨ 26 < j) → w' 0 j = w 0 j
theorem FrH.of {w w' : SV} (h : FrK w w') : FrH w w' := ⟨h.1, fun j _ _ hj => h.2 j hj⟩
theorem FrH.tr {a b c : SV} (h : FrH a b) (h' : FrH b c) : FrH a c := ⟨fun k hk => (h'.1 k hk).trans (h.1 k hk), fun j h6 h7 hj => (h'.2 j h6 h7 hj).trans (h.2 j h6 h7 hj)⟩
theorem FrH.up {w : SV} {j : Nat} {x : Int32} (h : j = 16 ∨ j = 17) : FrH w (up2 w 0 j x) := ⟨fun k hk => up2_n hk, fun i h6 h7 hi => up2_si (by omega)⟩
theorem LK_up {w : SV} {n i j : Nat} {t : Nat → Nat} {x : Int32} (h : LK w n t i) (hj : j < 21 ∨ 26 < j) : LK (up2 w 0 j x) n t i := by
  unfold LK at h ⊢
  rw [up2_si (by omega), up2_si (by omega), up2_si (by omega), up2_si (by omega), up2_si (by omega), up2_si (by omega)]
  exact h
theorem LK_row {w : SV} {n i k j : Nat} {t : Nat → Nat} {x : Int32} (h : LK w n t i) (hk : k ≠ 0) : LK (up2 w k j x) n t i := by
  unfold LK at h ⊢
  rw [up2_n hk.symm]
  exact h
theorem Bk_0 {w : SV} {c a j : Nat} {x : Int32} (h : Bk w c a) (hj : j < 21 ∨ 26 < j) : Bk (up2 w 0 j x) c a := ⟨by rw [up2_si (by omega)]; exact h.1, by rw [up2_si (by omega)]; exact h.2.1, h.2.2⟩
theorem Bk_row {w : SV} {c a k j : Nat} {x : Int32} (h : Bk w c a) (hk : k ≠ 0) : Bk (up2 w k j x) c a := ⟨by rw [up2_n hk.symm]; exact h.1, by rw [up2_n hk.symm]; exact h.2.1, h.2.2⟩
theorem partHere_s {w : SV} {n i so HP : Nat} {t : Nat → Nat} (hT : RT w n t) (hn : n ≤ 160) (hb : ∀ j, t j ≤ 127) (hin : i ≤ n) (hL : LK w n t i) (hso : so < 2 ^ 31) (h16 : w 0 16 = nI HP + (-1)) (hHP : HP ≤ 6) : ∃ y w', m_X6_partHere w (nI so) = some (y, w') ∧ FrH w w' ∧ w' 0 17 = w 0 17 ∧ ((nfC n t i 0 5 so ≠ 0 ∧ y = nI 0 ∧ Bk w' (nfC n t i 0 5 so) (skA n t i)) ∨ (nfC n t i 0 5 so = 0 ∧ y = nI (tkV n t i) ∧ LK w' n t (tkE n t i) ∧ w' 0 16 = nI (mxh HP (tkV n t i)) + (-1))) := by
  have hV := tkV_lt n t i hb
  obtain ⟨y, w1, o1, o2, o3⟩ := other_s (lo := 0) (hi := 5) (so := so) hT hn hb hin hL (by omega) (by omega) hso
  have e16 : w1 0 16 = nI HP + (-1) := by rw [o2.2 16 (by omega), h16]
  unfold m_X6_partHere
  rw [show m_X6_other w (0 : Int32) (5 : Int32) (nI so) = some (y, w1) from o1, some_bind]
  dsimp +instances only
  have hall : ∀ x : Int32, FrH w (up2 w1 0 16 x) ∧ up2 w1 0 16 x 0 17 = w 0 17 := fun x => ⟨(FrH.of o2).tr (FrH.up (.inl rfl)), by rw [up2_si (by decide), o2.2 17 (by omega)]⟩
  rcases o3 with ⟨k1, rfl, k3⟩ | ⟨k1, rfl, k3⟩
  · split
    · exact ⟨_, _, rfl, (hall _).1, (hall _).2, .inl ⟨k1, rfl, Bk_0 k3 (by omega)⟩⟩
    · exact ⟨_, _, rfl, (hall _).1, (hall _).2, .inl ⟨k1, rfl, Bk_0 k3 (by omega)⟩⟩
  · have hle : (nI (tkV n t i) ≤ nI HP + (-1)) = (¬ HP ≤ tkV n t i) := by
      cases HP with
      | zero =>
        refine propext ⟨fun h => ?_, fun h => absurd (Nat.zero_le _) h⟩
        rw [Int32.le_iff_toInt_le, nI_toInt (by omega), show (nI 0 + (-1)).toInt = -1 from rfl] at h
        omega
      | succ H =>
        rw [sb_m1 (by omega)]
        exact (cast_le (by omega) (by omega)).trans (propext (by omega))
    rw [e16, ifp hle]
    unfold mxh
    by_cases hc : HP ≤ tkV n t i
    · rw [if_neg (fun h => h hc), if_pos hc]
      refine ⟨_, _, rfl, (hall _).1, (hall _).2, .inr ⟨k1, rfl, LK_up k3 (by omega), ?_⟩⟩
      rw [up2_ss, sb_m1 (by omega)]
      rfl
    · rw [if_pos hc, if_neg hc]
      exact ⟨_, _, rfl, (hall _).1, (hall _).2, .inr ⟨k1, rfl, LK_up k3 (by omega), up2_ss⟩⟩
theorem sitterHere_s {w : SV} {n i so HS : Nat} {t : Nat → Nat} (hT : RT w n t) (hn : n ≤ 160) (hb : ∀ j, t j ≤ 127) (hin : i ≤ n) (hL : LK w n t i) (hso : so < 2 ^ 31) (h17 : w 0 17 = nI HS + (-1)) (hHS : HS ≤ 6) : ∃ y w', m_X6_sitterHere w (nI so) = some (y, w') ∧ FrH w w' ∧ w' 0 16 = w 0 16 ∧ ((nfC n t i 0 4 so ≠ 0 ∧ y = nI 0 ∧ Bk w' (nfC n t i 0 4 so) (skA n t i)) ∨ (nfC n t i 0 4 so = 0 ∧ y = nI (tkV n t i) ∧ LK w' n t (tkE n t i) ∧ w' 0 17 = nI (mxh HS (tkV n t i)) + (-1))) := by
  have hV := tkV_lt n t i hb
  obtain ⟨y, w1, o1, o2, o3⟩ := other_s (lo := 0) (hi := 4) (so := so) hT hn hb hin hL (by omega) (by omega) hso
  have e17 : w1 0 17 = nI HS + (-1) := by rw [o2.2 17 (by omega), h17]
  unfold m_X6_sitterHere
  rw [show m_X6_other w (0 : Int32) (4 : Int32) (nI so) = some (y, w1) from o1, some_bind]
  dsimp +instances only
  have hall : ∀ x : Int32, FrH w (up2 w1 0 17 x) ∧ up2 w1 0 17 x 0 16 = w 0 16 := fun x => ⟨(FrH.of o2).tr (FrH.up (.inr rfl)), by rw [up2_si (by decide), o2.2 16 (by omega)]⟩
  rcases o3 with ⟨k1, rfl, k3⟩ | ⟨k1, rfl, k3⟩
  · split
    · exact ⟨_, _, rfl, (hall _).1, (hall _).2, .inl ⟨k1, rfl, Bk_0 k3 (by omega)⟩⟩
    · exact ⟨_, _, rfl, (hall _).1, (hall _).2, .inl ⟨k1, rfl, Bk_0 k3 (by omega)⟩⟩
  · have hle : (nI (tkV n t i) ≤ nI HS + (-1)) = (¬ HS ≤ tkV n t i) := by
      cases HS with
      | zero =>
        refine propext ⟨fun h => ?_, fun h => absurd (Nat.zero_le _) h⟩
        rw [Int32.le_iff_toInt_le, nI_toInt (by omega), show (nI 0 + (-1)).toInt = -1 from rfl] at h
        omega
      | succ H =>
        rw [sb_m1 (by omega)]
        exact (cast_le (by omega) (by omega)).trans (propext (by omega))
    rw [e17, ifp hle]
    unfold mxh
    by_cases hc : HS ≤ tkV n t i
    · rw [if_neg (fun h => h hc), if_pos hc]
      refine ⟨_, _, rfl, (hall _).1, (hall _).2, .inr ⟨k1, rfl, LK_up k3 (by omega), ?_⟩⟩
      rw [up2_ss, sb_m1 (by omega)]
      rfl
    · rw [if_pos hc, if_neg hc]
      exact ⟨_, _, rfl, (hall _).1, (hall _).2, .inr ⟨k1, rfl, LK_up k3 (by omega), up2_ss⟩⟩
theorem partHere_b {w : SV} {c a : Nat} (h : Bk w c a) (x : Int32) : ∃ w', m_X6_partHere w x = some (nI 0, w') ∧ FrH w w' ∧ Bk w' c a := by
  unfold m_X6_partHere
  rw [other_b h, some_bind]
  dsimp only
  split
  · exact ⟨_, rfl, FrH.up (.inl rfl), Bk_0 h (by omega)⟩
  · exact ⟨_, rfl, FrH.up (.inl rfl), Bk_0 h (by omega)⟩
theorem sitterHere_b {w : SV} {c a : Nat} (h : Bk w c a) (x : Int32) : ∃ w', m_X6_sitterHere w x = some (nI 0, w') ∧ FrH w w' ∧ Bk w' c a := by
  unfold m_X6_sitterHere
  rw [other_b h, some_bind]
  dsimp only
  split
  · exact ⟨_, rfl, FrH.up (.inr rfl), Bk_0 h (by omega)⟩
  · exact ⟨_, rfl, FrH.up (.inr rfl), Bk_0 h (by omega)⟩
/-- the sign at the end of a line -/
noncomputable def tlR (w : SV) : Option SV := (if (w 0 21) = 0 then (if (w 0 25) = (3 : Int32) then (m_X6_step w).bind (fun y145 => some y145) else (m_X6_fails w (2 : Int32)).bind (fun y141 => (m_X6_step y141).bind (fun y145 => some y145))) else (m_X6_step w).bind (fun y145 => some y145))
theorem tail_b {w : SV} {c a : Nat} (h : Bk w c a) : tlR w = some w := by
  unfold tlR
  rw [if_neg (show ¬ w 0 21 = 0 by rw [h.1]; exact nI_ne0 (by have := h.2.2; omega) (by have := h.2.2; omega)), step_b h.1 (by have := h.2.2; omega) h.2.2.2, some_bind]
theorem tail_s {w : SV} {n i : Nat} {t : Nat → Nat} (hT : RT w n t) (hn : n ≤ 160) (hb : ∀ j, t j ≤ 127) (hin : i ≤ n) (hL : LK w n t i) : ∃ w', tlR w = some w' ∧ FrK w w' ∧ ((sgC n t i ≠ 0 ∧ Bk w' (sgC n t i) (skA n t i)) ∨ (sgC n t i = 0 ∧ LK w' n t (tkE n t i))) := by
  have hk4 := tkK_lt n t i
  unfold sgC
  rcases hL with ⟨k4, l21, l22⟩ | ⟨k4, l21, l24, l25, l23, l26⟩
  · have hB : Bk w 1 (skA n t i) := ⟨l21, l22, by omega, by omega⟩
    rw [if_pos k4]
    exact ⟨w, tail_b hB, FrK.rf, .inl ⟨by decide, hB⟩⟩
  · rw [if_neg k4]
    unfold tlR
    rw [l21, if_pos (show nI 0 = (0 : Int32) from rfl), l25, ifp (show (nI (tkK n t i) = (3 : Int32)) = (tkK n t i = 3) from cast_eq (b := 3) (by omega) (by omega)), fails_0 l21 l24, some_bind]
    by_cases c3 : tkK n t i = 3
    · obtain ⟨w', s1, s2, s3⟩ := step_s hT hn hb (tkE_le t hin) l21 l23
      rw [if_pos c3, if_neg (show ¬ ¬ tkK n t i = 3 by omega), s1, some_bind]
      exact ⟨w', rfl, s3, .inr ⟨rfl, s2⟩⟩
    · have hB := Bk_up w 2 (skA n t i) (by omega) (by omega)
      rw [if_neg c3, if_pos c3]
      show ∃ w', (m_X6_step (up2 (up2 w 0 21 (nI 2)) 0 22 (nI (skA n t i)))).bind _ = _ ∧ _
      rw [step_b hB.1 (by omega) (by omega), some_bind]
      exact ⟨_, rfl, FrK_up w _ _, .inl ⟨by decide, hB⟩⟩
