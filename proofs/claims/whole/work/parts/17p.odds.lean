/-! ===== PURE: looks ===== -/
def popN (m : Nat) : Nat := sumN (fun k => if m.testBit k then 1 else 0) 6
theorem popN_le (m : Nat) : popN m ≤ 6 := by
  have := sumN_leN (f := fun k => if m.testBit k then 1 else 0) (b := 1) 6 (fun k _ => by split <;> omega)
  unfold popN
  omega
theorem bitsOf_s {m : Nat} (hm : m < 2 ^ 31) : m_X6_bitsOf (nI m) = some (nI (popN m)) := by
  unfold m_X6_bitsOf
  rw [show ((0 : Int32), (0 : Int32)) = (fun k => (nI (sumN (fun k => if m.testBit k then 1 else 0) k), nI k)) 0 from rfl]
  rw [lp_run (step := m_X6_bitsOf_L4 (nI m)) (fun k => (nI (sumN (fun k => if m.testBit k then 1 else 0) k), nI k)) 6 (r := (nI (popN m), nI 6))]
  · rfl
  · intro k hk
    unfold m_X6_bitsOf_L4
    dsimp +instances only
    rw [li_6, if_neg (nI_ge hk (by omega)), b_bit hm (by omega), nI_add, nI_1]
    rfl
  · unfold m_X6_bitsOf_L4
    dsimp +instances only
    rw [li_6, if_pos (nI_le (Nat.le_refl _) (by omega))]
    rfl
theorem bitCount_s : ∀ m, m < 64 → m_J6_bitCount_0f7a4 (nI m) = some (nI (popN m)) := by
  have h : ∀ m, m < 64 → m_J6_bitCount_0f7a4 (nI m) = some (nI (popN m)) := by decide +kernel
  exact h
theorem looksAll_s {w : SV} {A : AS} (hM : RM w 0 A) (hW : WF A) {m : Nat} (hm : m < 2 ^ 31) : m_X6_looksAll w (nI m) = some (bI (exA A m)) := by
  have hn := hW.1.n
  have hin : ∀ f z1, f < A 0 3 → lpC (m_X6_looksAll_L18 w (nI m) (z1, nI f)) ((0 : Int32), (0 : Int32)) = some (bI (anyN (exA1 A m f) (A 0 0)), nI (A 0 0)) := by
    intro f z1 hf
    rw [show ((0 : Int32), (0 : Int32)) = (fun k => (bI (anyN (exA1 A m f) k), nI k)) 0 from rfl]
    refine lp_run (step := m_X6_looksAll_L18 w (nI m) (z1, nI f)) (fun k => (bI (anyN (exA1 A m f) k), nI k)) (A 0 0) ?_ ?_
    · intro k hk
      have b16 := hW.1.b16 f hf
      unfold m_X6_looksAll_L18
      dsimp +instances only
      rw [hM.n0, if_neg (nI_ge hk (by omega)), li_0, topOn_s hM hW.1 (by omega) hk, some_bind, inB_nI (by omega) (by omega), ck_true, nI_clamp (by omega), hM.fo hf, ← li_0, ifp (bI_0 _), ifp (b_t1 hm (s := k) (by omega)), nI_1, ifp (oI_m4 (fun s hs => by have := tpA_5 hW (by omega) hs; omega))]
      show _ = some (Sum.inl (bI (anyN (exA1 A m f) k || exA1 A m f k), nI (k + 1)))
      unfold exA1
      cases h1 : tpA A k with
      | none => cases anyN (fun p => m.testBit p && amA (tpA A p) (A 16 f)) k <;> cases m.testBit k <;> simp [bI, amA]
      | some s =>
        have hs5 := tpA_5 hW (by omega) h1
        rw [if_neg (show ¬ some s = none from by simp)]
        show (if anyN (fun p => m.testBit p && amA (tpA A p) (A 16 f)) k = false then (if m.testBit k = true then (if (nI (A 16 f) >>> (nI s &&& 31)) &&& (1 : Int32) = (1 : Int32) then _ else _) else _) else _) = _
        rw [ifp (b_t1 (m := A 16 f) (s := s) (by omega) (by omega))]
        cases anyN (fun p => m.testBit p && amA (tpA A p) (A 16 f)) k <;> cases m.testBit k <;> cases h2 : (A 16 f).testBit s <;> simp [bI, amA, h2]
    · unfold m_X6_looksAll_L18
      dsimp +instances only
      rw [hM.n0, if_pos (nI_le (Nat.le_refl _) (by omega))]
  unfold m_X6_looksAll
  rw [show ((1 : Int32), (0 : Int32)) = (fun k => (bI (allN (fun f => anyN (exA1 A m f) (A 0 0)) k), nI k)) 0 from rfl]
  rw [lp_run (step := m_X6_looksAll_L4 w (nI m)) (fun k => (bI (allN (fun f => anyN (exA1 A m f) (A 0 0)) k), nI k)) (A 0 3) (r := (bI (exA A m), nI (A 0 3)))]
  · rw [some_bind]
    unfold m_X6_looksAll_K4
    dsimp only
    rw [nz_bI, ck_true]
  · intro k hk
    unfold m_X6_looksAll_L4
    dsimp +instances only
    rw [hM.n3, if_neg (nI_ge hk (by omega)), hin k _ hk, some_bind]
    unfold m_X6_looksAll_K18
    dsimp +instances only
    rw [ifp (bI_0 _), ifp (bI_0 _), nI_1]
    show _ = some (Sum.inl (bI (allN (fun f => anyN (exA1 A m f) (A 0 0)) k && anyN (exA1 A m k) (A 0 0)), nI (k + 1)))
    cases allN (fun f => anyN (exA1 A m f) (A 0 0)) k <;> cases anyN (exA1 A m k) (A 0 0) <;> rfl
  · unfold m_X6_looksAll_L4
    dsimp +instances only
    rw [hM.n3, if_pos (nI_le (Nat.le_refl _) (by omega))]
    rfl
/-- the least set of the fewest among those from a on, below b -/
def IsLk (ex : Nat → Bool) (a b : Nat) (o : Option Nat) : Prop := (o = none → ∀ m, a ≤ m → m < b → ex m = false) ∧ ∀ x, o = some x → a ≤ x ∧ x < b ∧ ex x = true ∧ ∀ m, a ≤ m → m < b → ex m = true → popN x < popN m ∨ (popN x = popN m ∧ x ≤ m)
theorem IsLk_u {ex : Nat → Bool} {a b : Nat} {o o' : Option Nat} (h : IsLk ex a b o) (h' : IsLk ex a b o') : o = o' := by
  cases o with
  | none =>
    cases o' with
    | none => rfl
    | some y =>
      obtain ⟨h1, h2, h3, -⟩ := h'.2 y rfl
      rw [h.1 rfl y h1 h2] at h3
      cases h3
  | some x =>
    obtain ⟨g1, g2, g3, g4⟩ := h.2 x rfl
    cases o' with
    | none =>
      rw [h'.1 rfl x g1 g2] at g3
      cases g3
    | some y =>
      obtain ⟨h1, h2, h3, h4⟩ := h'.2 y rfl
      have := g4 y h1 h2 h3
      have := h4 x g1 g2 g3
      rw [show x = y by omega]
theorem looks_b (v0 : SV) {v w : SV} {A : AS} (hR : RepC v A) (hM : RM w 0 A) (hW : WF A) (x : Int32) : ∃ a, m_X5_looks v0 v x = some a ∧ m_X6_looks w x = some a := by
  have hn := hW.1.n
  have h26 := p2_5 (n := A 0 0) (by omega)
  unfold m_X5_looks m_X6_looks
  rw [within_s (k := 2) (by decide) (by omega), in_s (k := 2) (by decide) (by omega), some_bind, some_bind]
  cases hx : ix x 2 with
  | none => exact ⟨_, rfl, rfl⟩
  | some u =>
    obtain ⟨rfl, hu⟩ := ix_some hx
    simp only [Option.isSome_some, show bI true = 1 from rfl, ne10, if_false]
    have hC := lp_inv (step := m_X5_looks_L16 v) (fun k z => z.2 = nI k ∧ ∃ o, z.1 = oI o ∧ IsLk (exA A) 0 k o) (fun r => ∃ o, r.1 = oI o ∧ IsLk (exA A) 0 (2 ^ A 0 0) o) (2 ^ A 0 0) ?_ ?_ (s0 := ((-4 : Int32), (0 : Int32))) ⟨rfl, none, rfl, fun _ m _ hm => absurd hm (Nat.not_lt_zero m), fun y h => by cases h⟩
    · have hD := lp_inv (step := m_X6_looks_L24 w) (fun k z => z.2 = nI (2 ^ A 0 0 - k) + (-1) ∧ ∃ o, z.1 = oI o ∧ IsLk (exA A) (2 ^ A 0 0 - k) (2 ^ A 0 0) o) (fun r => ∃ o, r.1 = oI o ∧ IsLk (exA A) 0 (2 ^ A 0 0) o) (2 ^ A 0 0) ?_ ?_ (s0 := ((-4 : Int32), nI (2 ^ A 0 0) + (-1))) ⟨rfl, none, rfl, fun _ m h1 hm => absurd hm (by omega), fun y h => by cases h⟩
      · obtain ⟨⟨r1, r2⟩, hr, o, ho, hL⟩ := hC
        obtain ⟨⟨q1, q2⟩, hq, o', ho', hL'⟩ := hD
        have := IsLk_u hL hL'
        subst this
        dsimp only at ho ho'
        subst ho ho'
        rw [hr, some_bind, hM.n0, b_two (by omega), Int32.sub_eq_add_neg, hq, some_bind]
        unfold m_X5_looks_K16 m_X6_looks_K24
        dsimp +instances only
        cases o with
        | none => rw [if_pos (show oI none = -4 from rfl), if_pos (show oI none = -4 from rfl)]; exact ⟨_, rfl, rfl⟩
        | some y =>
          obtain ⟨-, hy, -, -⟩ := hL.2 y rfl
          have e : ¬ oI (some y) = -4 := by rw [oI_m4 (fun t ht => by cases ht; omega)]; simp
          rw [if_neg e, if_neg e, show oI (some y) = nI y from rfl, bitCount_s y (by omega), bitsOf_s (by omega), some_bind]
          split <;> exact ⟨_, rfl, rfl⟩
      · rintro k ⟨z1, z2⟩ hk ⟨e2, o, e1, hL⟩
        dsimp only at e1 e2
        subst e1 e2
        left
        have em : nI (2 ^ A 0 0 - k) + (-1) = nI (2 ^ A 0 0 - k - 1) := sb_m1 (by omega)
        unfold m_X6_looks_L24
        dsimp +instances only
        rw [em, if_neg (nI_pos (by omega)), looksAll_s hM hW (by omega), some_bind, ifp (bI_0 _), show 2 ^ A 0 0 - (k + 1) = 2 ^ A 0 0 - k - 1 by omega]
        generalize hmm : 2 ^ A 0 0 - k - 1 = mm
        cases hex : exA A mm with
        | false =>
          rw [if_pos rfl]
          refine ⟨_, rfl, rfl, o, rfl, ?_, ?_⟩
          · intro ho m h1 h2
            by_cases hm : m = mm
            · rw [hm, hex]
            · exact hL.1 ho m (by omega) h2
          · intro y hy
            obtain ⟨g1, g2, g3, g4⟩ := hL.2 y hy
            refine ⟨by omega, g2, g3, fun m h1 h2 h3 => ?_⟩
            by_cases hm : m = mm
            · rw [hm, hex] at h3; cases h3
            · exact g4 m (by omega) h2 h3
        | true =>
          rw [if_neg (by simp)]
          have hset : (∀ y, o = some y → ¬ popN y < popN mm) → IsLk (exA A) mm (2 ^ A 0 0) (some mm) := by
            intro hh
            refine ⟨fun h => (by cases h), fun y hy => ?_⟩
            cases hy
            refine ⟨by omega, by omega, hex, fun m h1 h2 h3 => ?_⟩
            by_cases hm : m = mm
            · right; rw [hm]; exact ⟨rfl, Nat.le_refl _⟩
            · cases ho : o with
              | none => have := hL.1 ho m (by omega) h2; rw [this] at h3; cases h3
              | some y =>
                obtain ⟨g1, g2, g3, g4⟩ := hL.2 y ho
                have := g4 m (by omega) h2 h3
                have := hh y ho
                omega
          cases ho : o with
          | none =>
            rw [if_pos (show oI none = -4 from rfl)]
            exact ⟨_, rfl, rfl, some mm, rfl, hset (fun y hy => by rw [ho] at hy; cases hy)⟩
          | some y =>
            obtain ⟨g1, g2, g3, g4⟩ := hL.2 y ho
            have e : ¬ oI (some y) = -4 := by rw [oI_m4 (fun t ht => by cases ht; omega)]; simp
            have p1 := popN_le y
            have p2 := popN_le mm
            rw [if_neg e, bitsOf_s (by omega), some_bind, show oI (some y) = nI y from rfl, bitsOf_s (by omega), some_bind, ifp (cast_lt (by omega) (by omega))]
            by_cases hc : popN y < popN mm
            · rw [if_pos hc]
              refine ⟨_, rfl, rfl, some y, rfl, fun h => (by cases h), fun y' hy' => ?_⟩
              cases hy'
              refine ⟨by omega, g2, g3, fun m h1 h2 h3 => ?_⟩
              by_cases hm : m = mm
              · left; rw [hm]; exact hc
              · exact g4 m (by omega) h2 h3
            · rw [if_neg hc]
              exact ⟨_, rfl, rfl, some mm, rfl, hset (fun y' hy' => by rw [ho] at hy'; cases hy'; exact hc)⟩
      · rintro ⟨z1, z2⟩ ⟨e2, o, e1, hL⟩
        dsimp only at e1 e2
        subst e1 e2
        unfold m_X6_looks_L24
        dsimp +instances only
        rw [Nat.sub_self] at hL
        rw [Nat.sub_self, if_pos (show nI 0 + (-1) < (0 : Int32) from by decide)]
        exact ⟨_, rfl, o, rfl, hL⟩
    · rintro k ⟨z1, z2⟩ hk ⟨e2, o, e1, hL⟩
      dsimp only at e1 e2
      subst e1 e2
      left
      have hJ : ∀ z : Int32, m_X5_looks_J46 v (z, nI k) () = some (.inl ((if exA A k then nI k else z), nI (k + 1))) := by
        intro z
        unfold m_X5_looks_J46
        dsimp +instances only
        rw [exposesAll_s hR hW (by omega), some_bind, ifp (bI_0 _), nI_1]
        cases exA A k <;> rfl
      unfold m_X5_looks_L16
      dsimp +instances only
      rw [hR.n (j := 0) (by omega), b_two (by omega), if_neg (nI_ge hk (by omega)), hJ, bitCount_s k (by omega), some_bind]
      cases ho : o with
      | none =>
        rw [if_pos (show oI none = -4 from rfl)]
        cases hex : exA A k with
        | false =>
          refine ⟨_, rfl, rfl, none, rfl, fun _ m h1 h2 => ?_, fun y hy => by cases hy⟩
          by_cases hm : m = k
          · rw [hm, hex]
          · exact hL.1 ho m h1 (by omega)
        | true =>
          refine ⟨_, rfl, rfl, some k, rfl, fun h => (by cases h), fun y hy => ?_⟩
          cases hy
          refine ⟨by omega, by omega, hex, fun m h1 h2 h3 => ?_⟩
          by_cases hm : m = k
          · right; rw [hm]; exact ⟨rfl, Nat.le_refl _⟩
          · have := hL.1 ho m h1 (by omega); rw [this] at h3; cases h3
      | some y =>
        obtain ⟨g1, g2, g3, g4⟩ := hL.2 y ho
        have e : ¬ oI (some y) = -4 := by rw [oI_m4 (fun t ht => by cases ht; omega)]; simp
        have p1 := popN_le y
        have p2 := popN_le k
        rw [if_neg e, show oI (some y) = nI y from rfl, bitCount_s y (by omega), some_bind, ifp (cast_le (by omega) (by omega))]
        have hkeep : (exA A k = true → popN y ≤ popN k) → IsLk (exA A) 0 (k + 1) (some y) := by
          intro hh
          refine ⟨fun h => (by cases h), fun y' hy' => ?_⟩
          cases hy'
          refine ⟨by omega, by omega, g3, fun m h1 h2 h3 => ?_⟩
          by_cases hm : m = k
          · rw [hm] at h3 ⊢
            have := hh h3
            omega
          · exact g4 m h1 (by omega) h3
        by_cases hc : popN y ≤ popN k
        · rw [if_pos hc, nI_1]
          exact ⟨_, rfl, rfl, some y, rfl, hkeep (fun _ => hc)⟩
        · rw [if_neg hc]
          cases hex : exA A k with
          | false => exact ⟨_, rfl, rfl, some y, rfl, hkeep (fun h => by rw [hex] at h; cases h)⟩
          | true =>
            refine ⟨_, rfl, rfl, some k, rfl, fun h => (by cases h), fun y' hy' => ?_⟩
            cases hy'
            refine ⟨by omega, by omega, hex, fun m h1 h2 h3 => ?_⟩
            by_cases hm : m = k
            · right; rw [hm]; exact ⟨rfl, Nat.le_refl _⟩
            · have := g4 m h1 (by omega) h3; left; omega
    · rintro ⟨z1, z2⟩ ⟨e2, o, e1, hL⟩
      dsimp only at e1 e2
      subst e1 e2
      unfold m_X5_looks_L16
      dsimp +instances only
      rw [hR.n (j := 0) (by omega), b_two (by omega), if_pos (nI_le (Nat.le_refl _) (by omega))]
      exact ⟨_, rfl, o, rfl, hL⟩
/-! ===== PURE: fractions ===== -/
theorem li64_0 : (0 : Int64) = lN 0 := rfl
def frL (a b : Nat) (x : Int32) : Int64 := lN (if x = 0 then a / Nat.gcd a b else b / Nat.gcd a b)
theorem gcd_st {p q : Nat} : Nat.gcd p q = Nat.gcd q (p % q) := by
  rw [Nat.gcd_comm p q, Nat.gcd_rec q p, Nat.gcd_comm]
theorem frC_s : ∀ (j p q turn : Nat), q < 2 ^ j → turn + 2 * j + 1 ≤ 200 → p < 2 ^ 63 → q < 2 ^ 63 → ∃ t', lpC m_X5_fraction_L9 (lN p, lN q, nI turn) = some (lN (Nat.gcd p q), lN 0, t') := by
  intro j
  induction j with
  | zero =>
    intro p q turn hq ht hp hq63
    have hq : q = 0 := by omega
    subst hq
    refine ⟨nI turn, lp_done ?_⟩
    unfold m_X5_fraction_L9
    dsimp +instances only
    rw [show (200 : Int32) = nI 200 from rfl, if_neg (nI_ge (by omega) (by omega)), if_pos (by rw [lg_cmp_eq]; rfl), Nat.gcd_zero_right]
  | succ j ih =>
    intro p q turn hq ht hp hq63
    have hst : ∀ p q turn : Nat, turn < 200 → p < 2 ^ 63 → q < 2 ^ 63 → 0 < q → m_X5_fraction_L9 (lN p, lN q, nI turn) = some (.inl (lN q, lN (p % q), nI (turn + 1))) := by
      intro p q turn ht hp hq h0
      have hne : ¬ lN q = 0 := by rw [li64_0, pk_lEQ hq (by omega)]; omega
      unfold m_X5_fraction_L9
      dsimp +instances only
      rw [show (200 : Int32) = nI 200 from rfl, if_neg (nI_ge (by omega) (by omega)), if_neg (by rw [lg_cmp_eq]; exact hne), show dvL (lN q) = true from decide_eq_true hne, ck_true, pk_lRem hp h0 hq, nI_1]
    have hend : ∀ p turn : Nat, turn < 200 → lpC m_X5_fraction_L9 (lN p, lN 0, nI turn) = some (lN p, lN 0, nI turn) := by
      intro p turn ht
      refine lp_done ?_
      unfold m_X5_fraction_L9
      dsimp +instances only
      rw [show (200 : Int32) = nI 200 from rfl, if_neg (nI_ge (by omega) (by omega)), if_pos (by rw [lg_cmp_eq]; rfl)]
    by_cases h0 : q = 0
    · subst h0
      exact ⟨nI turn, by rw [hend p turn (by omega), Nat.gcd_zero_right]⟩
    · have hr := Nat.mod_lt p (show q > 0 by omega)
      by_cases h1 : p % q = 0
      · refine ⟨nI (turn + 1), ?_⟩
        rw [lp_next (hst p q turn (by omega) hp hq63 (by omega)), h1, hend q (turn + 1) (by omega), gcd_st, h1, Nat.gcd_zero_right]
      · have hr2 := Nat.mod_lt q (show p % q > 0 by omega)
        have hlt : q % (p % q) < 2 ^ j := by
          have e := Nat.div_add_mod q (p % q)
          have hd : 0 < q / (p % q) := Nat.div_pos (by omega) (by omega)
          have hm : p % q ≤ p % q * (q / (p % q)) := Nat.le_mul_of_pos_right _ hd
          have : 2 ^ (j + 1) = 2 ^ j + 2 ^ j := by rw [Nat.pow_succ]; omega
          omega
        obtain ⟨t', ht'⟩ := ih (p % q) (q % (p % q)) (turn + 1 + 1) hlt (by omega) (by omega) (by omega)
        refine ⟨t', ?_⟩
        rw [lp_next (hst p q turn (by omega) hp hq63 (by omega)), lp_next (hst q (p % q) (turn + 1) (by omega) hq63 (by omega) (by omega)), ht', ← gcd_st, ← gcd_st]
theorem fraction_s {a b : Nat} (ha : a < 2 ^ 63) (hb : b < 2 ^ 17) (h0 : 0 < b) (x : Int32) : m_X5_fraction (lN a) (lN b) x = some (frL a b x) := by
  obtain ⟨t', h⟩ := frC_s 17 a b 0 hb (by omega) ha (by omega)
  have hg : 0 < Nat.gcd a b := Nat.gcd_pos_of_pos_right a h0
  have hg2 : Nat.gcd a b ≤ b := Nat.gcd_le_right a h0
  have hne : ¬ lN (Nat.gcd a b) = 0 := by rw [li64_0, pk_lEQ (by omega) (by omega)]; omega
  unfold m_X5_fraction
  rw [show (0 : Int32) = nI 0 from rfl, h, some_bind]
  unfold m_X5_fraction_K9 frL
  dsimp +instances only
  rw [if_pos (by rw [lg_cmp_gt, li64_0, pk_lLT (by omega) (by omega)]; exact hg), show dvL (lN (Nat.gcd a b)) = true from decide_eq_true hne, ck_true, ck_true, pk_lDiv ha hg (by omega), pk_lDiv (by omega) hg (by omega)]
  split <;> rfl
theorem lowest_s {a b : Nat} (ha : a < 2 ^ 63) (hb : b < 2 ^ 63) (h0 : 0 < b) (x : Int32) : m_X6_lowest (lN a) (lN b) x = some (frL a b x) := by
  have hl : ∀ n q p : Nat, q ≤ n → p < 2 ^ 63 → q < 2 ^ 63 → lpC m_X6_lowest_L17 (lN p, lN q) = some (lN (Nat.gcd p q), lN 0) := by
    intro n
    induction n with
    | zero =>
      intro q p hq hp hq63
      have hq : q = 0 := by omega
      subst hq
      refine lp_done ?_
      unfold m_X6_lowest_L17
      dsimp +instances only
      rw [if_pos (by rw [lg_cmp_eq]; rfl), Nat.gcd_zero_right]
    | succ n ih =>
      intro q p hq hp hq63
      by_cases h0 : q = 0
      · subst h0
        refine lp_done ?_
        unfold m_X6_lowest_L17
        dsimp +instances only
        rw [if_pos (by rw [lg_cmp_eq]; rfl), Nat.gcd_zero_right]
      · have hr := Nat.mod_lt p (show q > 0 by omega)
        have hne : ¬ lN q = 0 := by rw [li64_0, pk_lEQ hq63 (by omega)]; omega
        have hst : m_X6_lowest_L17 (lN p, lN q) = some (.inl (lN q, lN (p % q))) := by
          unfold m_X6_lowest_L17
          dsimp +instances only
          rw [if_neg (by rw [lg_cmp_eq]; exact hne), show dvL (lN q) = true from decide_eq_true hne, ck_true, pk_lRem hp (by omega) hq63]
        rw [lp_next hst, ih (p % q) q (by omega) hq63 (by omega), ← gcd_st]
  have hg : 0 < Nat.gcd a b := Nat.gcd_pos_of_pos_right a h0
  have hg2 : Nat.gcd a b ≤ b := Nat.gcd_le_right a h0
  have hne : ¬ lN (Nat.gcd a b) = 0 := by rw [li64_0, pk_lEQ (by omega) (by omega)]; omega
  unfold m_X6_lowest
  rw [if_pos (by rw [lg_cmp_ge, li64_0, pk_lLE (by omega) ha]; omega)]
  unfold m_X6_lowest_J12
  rw [hl b b a (Nat.le_refl _) ha hb, some_bind]
  unfold m_X6_lowest_K17 frL
  dsimp +instances only
  rw [show dvL (lN (Nat.gcd a b)) = true from decide_eq_true hne, ck_true, ck_true, pk_lDiv ha hg (by omega), pk_lDiv hb hg (by omega)]
  split <;> rfl
theorem frL_scale {a b k : Nat} (hk : 0 < k) (x : Int32) : frL (k * a) (k * b) x = frL a b x := by
  unfold frL
  rw [Nat.gcd_mul_left, Nat.mul_div_mul_left _ _ hk, Nat.mul_div_mul_left _ _ hk]
theorem frL_eq {a b c d : Nat} (hb : 0 < b) (hd : 0 < d) (h : a * d = c * b) (x : Int32) : frL a b x = frL c d x := by
  rw [← frL_scale (a := a) hd, ← frL_scale (a := c) hb, Nat.mul_comm d a, h, Nat.mul_comm c b, Nat.mul_comm d b]
