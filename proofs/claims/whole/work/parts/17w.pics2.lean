/-! ===== PURE: cheap, fits, ask by the reference ===== -/
def wiB (A : AS) (d : Nat → Nat) (m : Nat) : Bool := allN (fun s => decide (tmN d (A 0 0) s ≤ m)) (A 0 1)
theorem isWithin_s {w : SV} {A : AS} {d : Nat → Nat} {m : Nat} (hM : RM w 0 A) (hW : WFb A) (hd : ∀ p, p < A 0 0 → w 30 p = nI (d p) ∧ d p < A 0 1) (hm : m < 2 ^ 31) : m_X6_isWithin w (nI m) = some (bI (wiB A d m)) := by
  have hn := hW.n
  have hin : ∀ s z1, s < A 0 1 → lpC (m_X6_isWithin_L18 w (z1, nI s)) ((0 : Int32), (0 : Int32)) = some (nI (tmN d (A 0 0) s), nI (A 0 0)) := by
    intro s z1 hs
    rw [show ((0 : Int32), (0 : Int32)) = (fun k => (nI (tmN d k s), nI k)) 0 from rfl]
    refine lp_run (step := m_X6_isWithin_L18 w (z1, nI s)) (fun k => (nI (tmN d k s), nI k)) (A 0 0) ?_ ?_
    · intro k hk
      obtain ⟨e, hl⟩ := hd k hk
      unfold m_X6_isWithin_L18
      dsimp +instances only
      rw [hM.n0, if_neg (nI_ge hk (by omega)), inB_nI (by omega) (by omega), ck_true, nI_clamp (by omega), e, ifp (cast_eq (by omega) (by omega)), ad0, nI_1, nI_1]
      show _ = some (Sum.inl (nI (tmN d k s + (if d k = s then 1 else 0)), nI (k + 1)))
      split <;> rfl
    · unfold m_X6_isWithin_L18
      dsimp +instances only
      rw [hM.n0, if_pos (nI_le (Nat.le_refl _) (by omega))]
  unfold m_X6_isWithin
  rw [show ((1 : Int32), (0 : Int32)) = (fun k => (bI (allN (fun s => decide (tmN d (A 0 0) s ≤ m)) k), nI k)) 0 from rfl]
  rw [lp_run (step := m_X6_isWithin_L4 w (nI m)) (fun k => (bI (allN (fun s => decide (tmN d (A 0 0) s ≤ m)) k), nI k)) (A 0 1) (r := (bI (wiB A d m), nI (A 0 1)))]
  · rw [some_bind]
    unfold m_X6_isWithin_K4
    dsimp only
    rw [nz_bI, ck_true]
  · intro k hk
    have htl := tmN_le d (A 0 0) k
    unfold m_X6_isWithin_L4
    dsimp +instances only
    rw [hM.n1, if_neg (nI_ge hk (by omega)), hin k _ hk, some_bind]
    unfold m_X6_isWithin_K18
    dsimp +instances only
    rw [ifp (bI_0 _), ifp (cast_lt (by omega) (by omega)), nI_1]
    show _ = some (Sum.inl (bI (allN (fun s => decide (tmN d (A 0 0) s ≤ m)) k && decide (tmN d (A 0 0) k ≤ m)), nI (k + 1)))
    cases allN (fun s => decide (tmN d (A 0 0) s ≤ m)) k
    · rfl
    · rw [if_neg (by simp)]
      by_cases hc : m < tmN d (A 0 0) k
      · rw [if_pos hc, decide_eq_false (show ¬ tmN d (A 0 0) k ≤ m by omega)]; rfl
      · rw [if_neg hc, decide_eq_true (show tmN d (A 0 0) k ≤ m by omega)]; rfl
  · unfold m_X6_isWithin_L4
    dsimp +instances only
    rw [hM.n1, if_pos (nI_le (Nat.le_refl _) (by omega))]
    rfl
theorem cheap6_s {w : SV} {A : AS} (hM : RM w 0 A) (hW : WF A) {m u : Nat} (hm : m < 7) (hm1 : 1 ≤ m) (hu : u < 2) : ∃ w' o, IsBs (fun c => fitB A (dg (A 0 1) (A 0 0) c) && wiB A (dg (A 0 1) (A 0 0) c) m) (fun c => spN (prSi A) (dg (A 0 1) (A 0 0) c) (A 0 0)) (A 0 1 ^ A 0 0) o ∧ m_X6_cheap w (nI m) (nI u) = some (bsA u (fun c => spN (prSi A) (dg (A 0 1) (A 0 0) c) (A 0 0)) o, w') ∧ Kp w w' := by
  have hn := hW.1.n
  have hc2 := pic_le hW.1 (Nat.le_refl (A 0 0))
  have hspl : ∀ c, spN (prSi A) (dg (A 0 1) (A 0 0) c) (A 0 0) ≤ 486 := fun c => by
    have := spN_le (prSi_le hW.1) (dg (A 0 1) (A 0 0) c) (A 0 0)
    omega
  have hix : ix1 (nI m) 7 = some m := by
    unfold ix1
    rw [nI_toInt (by omega), if_pos (by omega)]
    simp
  unfold m_X6_cheap
  rw [in1_s (k := 7) (by decide), some_bind, hix, Option.isSome_some, if_neg (by decide), in_s (k := 2) (by decide) (by omega), some_bind, ix_nI hu (by omega), Option.isSome_some, if_neg (by decide)]
  have := lp_inv (step := m_X6_cheap_L35 (nI m)) (fun k z => z.2.2.1 = nI k ∧ RM z.2.2.2 0 A ∧ Kp w z.2.2.2 ∧ ∃ o, z.1 = nI (bsC 1000000 (fun c => spN (prSi A) (dg (A 0 1) (A 0 0) c) (A 0 0)) o) ∧ z.2.1 = oI o ∧ IsBs (fun c => fitB A (dg (A 0 1) (A 0 0) c) && wiB A (dg (A 0 1) (A 0 0) c) m) (fun c => spN (prSi A) (dg (A 0 1) (A 0 0) c) (A 0 0)) k o) (fun r => Kp w r.2.2.2 ∧ ∃ o, r.1 = nI (bsC 1000000 (fun c => spN (prSi A) (dg (A 0 1) (A 0 0) c) (A 0 0)) o) ∧ r.2.1 = oI o ∧ IsBs (fun c => fitB A (dg (A 0 1) (A 0 0) c) && wiB A (dg (A 0 1) (A 0 0) c) m) (fun c => spN (prSi A) (dg (A 0 1) (A 0 0) c) (A 0 0)) (A 0 1 ^ A 0 0) o) (A 0 1 ^ A 0 0) ?_ ?_ (s0 := ((1000000 : Int32), (-4 : Int32), (0 : Int32), w)) ⟨rfl, hM, Kp.rf, none, rfl, rfl, IsBs_0 _ _⟩
  · obtain ⟨⟨r1, r2, r3, r4⟩, hr, h1, o, h2, h3, h4⟩ := this
    dsimp only at h1 h2 h3
    subst h2 h3
    rw [hr, some_bind]
    unfold m_X6_cheap_K35
    dsimp +instances only
    cases ho : o with
    | none => rw [if_pos (show oI none = -4 from rfl)]; exact ⟨r4, none, ho ▸ h4, rfl, h1⟩
    | some c =>
      obtain ⟨g1, -, -⟩ := h4.2 c ho
      rw [if_neg (show ¬ oI (some c) = -4 by rw [oI_m4 (fun t ht => by cases ht; omega)]; simp), ifp (show (nI u = (1 : Int32)) = (u = 1) from cast_eq (b := 1) (by omega) (by omega))]
      refine ⟨r4, some c, ho ▸ h4, ?_, h1⟩
      unfold bsA
      dsimp only
      split <;> rfl
  · rintro k ⟨z1, z2, z3, z4⟩ hk ⟨e3, e4, e5, o, e1, e2, e6⟩
    dsimp only at e1 e2 e3 e4 e5
    subst e1 e2 e3
    left
    have hn0 : 0 < A 0 1 := by
      cases hz : A 0 1 with
      | zero => rw [hz, Nat.zero_pow (by omega)] at hk; omega
      | succ k => omega
    obtain ⟨w', h1, h2, h3, -, h5⟩ := lays_s e4 hW hk
    have hst := IsBs_s e6 (z := 1000000) (fun c => by have := hspl c; omega)
    unfold m_X6_cheap_L35
    dsimp +instances only
    rw [pictures_s e4 hW.1, some_bind, if_neg (nI_ge hk (by omega)), h1, some_bind, ifp (bI_0 _)]
    cases hf : fitB A (dg (A 0 1) (A 0 0) k) with
    | false =>
      rw [if_pos rfl, nI_1]
      rw [if_neg (by rw [hf]; simp)] at hst
      exact ⟨_, rfl, rfl, h2, e5.tr h3, o, rfl, rfl, hst⟩
    | true =>
      rw [if_neg (by simp), isWithin_s (d := dg (A 0 1) (A 0 0) k) h2 hW.1 (fun p hp => ⟨h5 p hp, dg_lt hn0⟩) (by omega), some_bind, ifp (bI_0 _)]
      cases hw : wiB A (dg (A 0 1) (A 0 0) k) m with
      | false =>
        rw [if_pos rfl, nI_1]
        rw [if_neg (by rw [hw]; simp)] at hst
        exact ⟨_, rfl, rfl, h2, e5.tr h3, o, rfl, rfl, hst⟩
      | true =>
        rw [if_neg (by simp)]
        have hsk := hspl k
        have hl : lpC (m_X6_cheap_L67 (bI true, w')) ((0 : Int32), (0 : Int32)) = some (nI (spN (prSi A) (dg (A 0 1) (A 0 0) k) (A 0 0)), nI (A 0 0)) := by
          rw [show ((0 : Int32), (0 : Int32)) = (fun j => (nI (spN (prSi A) (dg (A 0 1) (A 0 0) k) j), nI j)) 0 from rfl]
          refine lp_run (step := m_X6_cheap_L67 (bI true, w')) (fun j => (nI (spN (prSi A) (dg (A 0 1) (A 0 0) k) j), nI j)) (A 0 0) ?_ ?_
          · intro j hj
            have d1 := dg_lt (D := A 0 0) (c := k) (i := j) hn0
            unfold m_X6_cheap_L67
            dsimp +instances only
            rw [h2.n0, if_neg (nI_ge hj (by omega)), inB_nI (by omega) (by omega), ck_true, nI_clamp (by omega), h5 j hj, li_46, nI_add, inB_nI (by omega) (by omega), ck_true, worthOf_s h2 hW.1 hj, some_bind, nI_clamp (by omega), h2.ak d1, pk_mul, nI_add, nI_1]
            show _ = some (Sum.inl (nI (spN (prSi A) (dg (A 0 1) (A 0 0) k) j + prSi A j (dg (A 0 1) (A 0 0) k j)), nI (j + 1)))
            unfold prSi
            rw [if_pos ⟨hj, d1⟩]
          · unfold m_X6_cheap_L67
            dsimp +instances only
            rw [h2.n0, if_pos (nI_le (Nat.le_refl _) (by omega))]
        rw [hl, some_bind]
        unfold m_X6_cheap_K67
        dsimp +instances only
        have hbs : bsC 1000000 (fun c => spN (prSi A) (dg (A 0 1) (A 0 0) c) (A 0 0)) o ≤ 1000000 := by
          unfold bsC
          split
          · omega
          · rename_i c; have := hspl c; dsimp only; omega
        rw [ifp (cast_le (by omega) (by omega)), ifp (cast_le (by omega) (by omega)), ifp (cast_le (by omega) (by omega)), nI_1]
        by_cases hc : spN (prSi A) (dg (A 0 1) (A 0 0) k) (A 0 0) < bsC 1000000 (fun c => spN (prSi A) (dg (A 0 1) (A 0 0) c) (A 0 0)) o
        · rw [if_pos ⟨by rw [hf, hw]; rfl, hc⟩] at hst
          rw [if_neg (by omega), if_neg (by omega)]
          exact ⟨_, rfl, rfl, h2, e5.tr h3, some k, rfl, rfl, hst⟩
        · rw [if_neg (by rintro ⟨-, h⟩; exact hc h)] at hst
          rw [if_pos (by omega), if_pos (by omega)]
          exact ⟨_, rfl, rfl, h2, e5.tr h3, o, rfl, rfl, hst⟩
  · rintro ⟨z1, z2, z3, z4⟩ ⟨e3, e4, e5, o, e1, e2, e6⟩
    dsimp only at e1 e2 e3 e4 e5
    subst e1 e2 e3
    unfold m_X6_cheap_L35
    dsimp +instances only
    rw [pictures_s e4 hW.1, some_bind, if_pos (nI_le (Nat.le_refl _) (by omega))]
    exact ⟨_, rfl, e5, o, rfl, rfl, e6⟩
/-! fits -/
def poB (A S : AS) (c : Nat) : Bool := fitB A (dg (A 0 1) (A 0 0) c) && snB S (dg (A 0 1) (A 0 0) c) (S 0 0)
theorem cnt0 (P : Nat → Bool) : ∀ k, (sumN (fun c => if P c then 1 else 0) k = 0) = (firstN P k = none) := by
  intro k
  induction k with
  | zero => exact propext ⟨fun _ => rfl, fun _ => rfl⟩
  | succ k ih =>
    rw [sumN]
    simp only [firstN]
    cases hf : firstN P k with
    | none =>
      rw [hf] at ih
      have h0 : sumN (fun c => if P c then 1 else 0) k = 0 := by rw [ih]
      rw [h0]
      dsimp only
      cases P k <;> simp
    | some j =>
      rw [hf] at ih
      have h0 : ¬ sumN (fun c => if P c then 1 else 0) k = 0 := by rw [ih]; simp
      refine propext ⟨fun h => by omega, fun h => by cases h⟩
theorem cnt_le (P : Nat → Bool) (k : Nat) : sumN (fun c => if P c then 1 else 0) k ≤ k := by
  have := sumN_leN (f := fun c => if P c then 1 else 0) (b := 1) k (fun c _ => by split <;> omega)
  omega
theorem fits6_s {v7 w : SV} {A S : AS} (hM : RM w 0 A) (hW : WF A) (hS : RepN v7 w S A) {u : Nat} (hu : u < 2) : ∃ w', m_X6_fits w (nI u) = some ((if u = 0 then nI (sumN (fun c => if poB A S c then 1 else 0) (A 0 1 ^ A 0 0)) else oI (firstN (poB A S) (A 0 1 ^ A 0 0))), w') ∧ Kp w w' := by
  have hc2 := pic_le hW.1 (Nat.le_refl (A 0 0))
  unfold m_X6_fits
  rw [in_s (k := 2) (by decide) (by omega), some_bind, ix_nI hu (by omega), Option.isSome_some, if_neg (by decide)]
  have := lp_inv (step := m_X6_fits_L20) (fun k z => z.1 = nI (sumN (fun c => if poB A S c then 1 else 0) k) ∧ z.2.1 = oI (firstN (poB A S) k) ∧ z.2.2.1 = nI k ∧ RM z.2.2.2 0 A ∧ Kp w z.2.2.2) (fun r => r.1 = nI (sumN (fun c => if poB A S c then 1 else 0) (A 0 1 ^ A 0 0)) ∧ r.2.1 = oI (firstN (poB A S) (A 0 1 ^ A 0 0)) ∧ Kp w r.2.2.2) (A 0 1 ^ A 0 0) ?_ ?_ (s0 := ((0 : Int32), (-4 : Int32), (0 : Int32), w)) ⟨rfl, rfl, rfl, hM, Kp.rf⟩
  · obtain ⟨⟨r1, r2, r3, r4⟩, hr, h1, h2, h3⟩ := this
    dsimp only at h1 h2 h3
    subst h1 h2
    rw [hr, some_bind]
    unfold m_X6_fits_K20
    dsimp +instances only
    rw [ifp (show (nI u = (0 : Int32)) = (u = 0) from cast_eq (b := 0) (by omega) (by omega))]
    refine ⟨r4, ?_, h3⟩
    split <;> rfl
  · rintro k ⟨z1, z2, z3, z4⟩ hk ⟨e1, e2, e3, e4, e5⟩
    dsimp only at e1 e2 e3 e4 e5
    subst e1 e2 e3
    left
    have hS' : RepN v7 z4 S A := RepN_f hS (e5.1 31 (by decide) (by decide) (by decide) (by decide) (by decide)) (e5.2.1 32 (by decide)) rfl
    obtain ⟨w', h1, h2, h3, -, -⟩ := possible_s e4 hW hS' hk
    have hcl := cnt_le (poB A S) k
    have hc0 := cnt0 (poB A S) k
    unfold m_X6_fits_L20
    dsimp +instances only
    have h1 : m_X6_isPossible z4 (nI k) = some (bI (poB A S k), w') := h1
    rw [pictures_s e4 hW.1, some_bind, if_neg (nI_ge hk (by omega)), h1, some_bind]
    simp only [bI_0]
    rw [ad0, nI_1, nI_1]
    have e0 : (nI (sumN (fun c => if poB A S c then 1 else 0) k) = (0 : Int32)) = (firstN (poB A S) k = none) := (cast_eq (b := 0) (by omega) (by omega)).trans hc0
    rw [ifp e0]
    show ∃ s' : Int32 × Int32 × Int32 × SV, _ = _ ∧ s'.1 = nI (sumN _ k + (if poB A S k then 1 else 0)) ∧ s'.2.1 = oI (match firstN (poB A S) k with | some k => some k | none => if poB A S k then some k else none) ∧ _
    cases hp : poB A S k with
    | false =>
      rw [if_pos rfl, if_pos rfl]
      refine ⟨_, rfl, rfl, ?_, rfl, h2, e5.tr h3⟩
      cases firstN (poB A S) k <;> rfl
    | true =>
      simp only [show (true = false) = False from by simp, if_false, if_true]
      cases hf : firstN (poB A S) k with
      | none =>
        rw [if_pos rfl]
        exact ⟨_, rfl, rfl, rfl, rfl, h2, e5.tr h3⟩
      | some j =>
        rw [if_neg (show ¬ some j = none from fun h => by cases h)]
        exact ⟨_, rfl, rfl, rfl, rfl, h2, e5.tr h3⟩
  · rintro ⟨z1, z2, z3, z4⟩ ⟨e1, e2, e3, e4, e5⟩
    dsimp only at e1 e2 e3 e4 e5
    subst e1 e2 e3
    unfold m_X6_fits_L20
    dsimp +instances only
    rw [pictures_s e4 hW.1, some_bind, if_pos (nI_le (Nat.le_refl _) (by omega))]
    exact ⟨_, rfl, rfl, rfl, e5⟩
/-! ask -/
def akS (all : Nat) (sm : Nat → Nat → Nat) (p q : Nat) (st : Nat × Option Nat) : Nat × Option Nat := if mxN (sm p q) (all - sm p q) < st.1 then (mxN (sm p q) (all - sm p q), some (10 * p + q)) else st
def akI (all : Nat) (sm : Nat → Nat → Nat) (p : Nat) (st : Nat × Option Nat) : Nat → Nat × Option Nat := itn (fun j => akS all sm p (p + 1 + j)) st
def akA (all : Nat) (sm : Nat → Nat → Nat) (P : Nat) : Nat → Nat × Option Nat := itn (fun p st => akI all sm p st (P - (p + 1))) (all, none)
def akR (u : Nat) (st : Nat × Option Nat) : Int32 := match st.2 with
  | none => -4
  | some c => if u = 0 then nI c else nI st.1
def akOk (all : Nat) (st : Nat × Option Nat) : Prop := st.1 ≤ all ∧ ∀ c, st.2 = some c → c ≤ 100
theorem akOk_S {all p q : Nat} {sm : Nat → Nat → Nat} {st : Nat × Option Nat} (h : akOk all st) (hp : p < 6) (hq : q < 6) : akOk all (akS all sm p q st) := by
  unfold akS
  split
  · rename_i hc
    refine ⟨?_, fun c hc2 => ?_⟩
    · have := h.1; dsimp only; omega
    · cases hc2; omega
  · exact h
theorem akA_c {all : Nat} {sm sm' : Nat → Nat → Nat} {P : Nat} (e : ∀ p q, p < q → q < P → sm p q = sm' p q) : ∀ k, k ≤ P → akA all sm P k = akA all sm' P k := by
  have hI : ∀ p st, p < P → ∀ j, j ≤ P - (p + 1) → akI all sm p st j = akI all sm' p st j := by
    intro p st hp j
    induction j with
    | zero => intro _; rfl
    | succ j ih =>
      intro hj
      show akS all sm p (p + 1 + j) (akI all sm p st j) = akS all sm' p (p + 1 + j) (akI all sm' p st j)
      rw [ih (by omega)]
      unfold akS
      rw [e p (p + 1 + j) (by omega) (by omega)]
  intro k
  induction k with
  | zero => intro _; rfl
  | succ k ih =>
    intro hk
    show akI all sm k (akA all sm P k) (P - (k + 1)) = akI all sm' k (akA all sm' P k) (P - (k + 1))
    rw [ih (by omega), hI k _ (by omega) _ (Nat.le_refl _)]
def alK6 (P : Nat) (d : Nat → Nat) (j : Nat) : Nat := if j / 6 < P ∧ j % 6 < P ∧ d (j / 6) = d (j % 6) then 1 else 0
theorem ask6_s {v7 w : SV} {A S : AS} (hM : RM w 0 A) (hW : WF A) (hS : RepN v7 w S A) {u : Nat} (hu : u < 2) : ∃ w', m_X6_ask w (nI u) = some (akR u (akA (sumN (fun c => if poB A S c then 1 else 0) (A 0 1 ^ A 0 0)) (fun p q => sumN (fun c => if poB A S c then alK6 (A 0 0) (dg (A 0 1) (A 0 0) c) (6 * p + q) else 0) (A 0 1 ^ A 0 0)) (A 0 0) (A 0 0)), w') ∧ Kp w w' := by
  have hn := hW.1.n
  have hc2 := pic_le hW.1 (Nat.le_refl (A 0 0))
  unfold m_X6_ask
  rw [in_s (k := 2) (by decide) (by omega), some_bind, ix_nI hu (by omega), Option.isSome_some, if_neg (by decide)]
  have h0 := lp_inv (step := m_X6_ask_L16) (fun k z => z.1 = nI k ∧ RM z.2 0 A ∧ Kp w z.2 ∧ ∀ j, j < k → z.2 33 j = nI 0) (fun r => RM r.2 0 A ∧ Kp w r.2 ∧ ∀ j, j < 36 → r.2 33 j = nI 0) 36 ?_ ?_ (s0 := ((0 : Int32), w)) ⟨rfl, hM, Kp.rf, fun j hj => absurd hj (Nat.not_lt_zero j)⟩
  · obtain ⟨⟨y1, y⟩, hy, y2, y3, y4⟩ := h0
    dsimp only at y2 y3 y4
    rw [hy, some_bind]
    unfold m_X6_ask_K16
    dsimp only
    have h1 := lp_inv (step := m_X6_ask_L37) (fun k z => z.1 = nI (sumN (fun c => if poB A S c then 1 else 0) k) ∧ z.2.1 = nI k ∧ RM z.2.2 0 A ∧ Kp w z.2.2 ∧ ∀ j, j < 36 → z.2.2 33 j = nI (sumN (fun c => if poB A S c then alK6 (A 0 0) (dg (A 0 1) (A 0 0) c) j else 0) k)) (fun r => r.1 = nI (sumN (fun c => if poB A S c then 1 else 0) (A 0 1 ^ A 0 0)) ∧ RM r.2.2 0 A ∧ Kp w r.2.2 ∧ ∀ j, j < 36 → r.2.2 33 j = nI (sumN (fun c => if poB A S c then alK6 (A 0 0) (dg (A 0 1) (A 0 0) c) j else 0) (A 0 1 ^ A 0 0))) (A 0 1 ^ A 0 0) ?_ ?_ (s0 := ((0 : Int32), (0 : Int32), y)) ⟨rfl, rfl, y2, y3, y4⟩
    · obtain ⟨⟨r1, r2, r⟩, hr, g1, g2, g3, g4⟩ := h1
      dsimp only at g1 g2 g3 g4
      subst g1
      rw [hr, some_bind]
      unfold m_X6_ask_K37
      dsimp only
      have hall := cnt_le (poB A S) (A 0 1 ^ A 0 0)
      have hsm : ∀ j, sumN (fun c => if poB A S c then alK6 (A 0 0) (dg (A 0 1) (A 0 0) c) j else 0) (A 0 1 ^ A 0 0) ≤ sumN (fun c => if poB A S c then 1 else 0) (A 0 1 ^ A 0 0) := by
        intro j
        generalize A 0 1 ^ A 0 0 = N
        induction N with
        | zero => exact Nat.le_refl _
        | succ N ih =>
          rw [sumN, sumN]
          have : (if poB A S N then alK6 (A 0 0) (dg (A 0 1) (A 0 0) N) j else 0) ≤ (if poB A S N then 1 else 0) := by
            split
            · unfold alK6; split <;> omega
            · exact Nat.le_refl _
          omega
      generalize hallE : sumN (fun c => if poB A S c then 1 else 0) (A 0 1 ^ A 0 0) = all at hall hsm ⊢
      generalize hsmE : (fun p q => sumN (fun c => if poB A S c then alK6 (A 0 0) (dg (A 0 1) (A 0 0) c) (6 * p + q) else 0) (A 0 1 ^ A 0 0)) = sm
      have g5 : ∀ p q, p < A 0 0 → q < A 0 0 → r 33 (6 * p + q) = nI (sm p q) ∧ sm p q ≤ all := fun p q hp hq => by
        rw [← hsmE]
        exact ⟨g4 _ (by omega), hsm _⟩
      have h2 := lp_inv (step := m_X6_ask_L149 (nI all, r2, r)) (fun p z => z.2.2 = nI p ∧ z.1 = nI (akA all sm (A 0 0) p).1 ∧ z.2.1 = oI (akA all sm (A 0 0) p).2 ∧ akOk all (akA all sm (A 0 0) p)) (fun q => q.1 = nI (akA all sm (A 0 0) (A 0 0)).1 ∧ q.2.1 = oI (akA all sm (A 0 0) (A 0 0)).2 ∧ akOk all (akA all sm (A 0 0) (A 0 0))) (A 0 0) ?_ ?_ (s0 := (nI all, (-4 : Int32), (0 : Int32))) ⟨rfl, rfl, rfl, Nat.le_refl _, fun c h => by cases h⟩
      · obtain ⟨⟨q1, q2, q3⟩, hq, f1, f2, f3⟩ := h2
        dsimp only at f1 f2
        subst f1 f2
        rw [hq, some_bind]
        unfold m_X6_ask_K149 akR
        dsimp +instances only
        cases hst : (akA all sm (A 0 0) (A 0 0)).2 with
        | none => rw [if_pos (show oI none = -4 from rfl)]; exact ⟨r, rfl, g3⟩
        | some c =>
          have := f3.2 c hst
          rw [if_neg (show ¬ oI (some c) = -4 by rw [oI_m4 (fun t ht => by cases ht; omega)]; simp), ifp (show (nI u = (0 : Int32)) = (u = 0) from cast_eq (b := 0) (by omega) (by omega))]
          refine ⟨r, ?_, g3⟩
          split <;> rfl
      · rintro p ⟨z1, z2, z3⟩ hp ⟨e3, e1, e2, e4⟩
        dsimp only at e1 e2 e3
        subst e1 e2 e3
        left
        unfold m_X6_ask_L149
        dsimp +instances only
        rw [g2.n0, if_neg (nI_ge hp (by omega)), nI_1]
        have h3 := lp_inv (step := m_X6_ask_L164 (nI all, r2, r) (nI (akA all sm (A 0 0) p).1, oI (akA all sm (A 0 0) p).2, nI p)) (fun j z => z.2.2 = nI (p + 1 + j) ∧ z.1 = nI (akI all sm p (akA all sm (A 0 0) p) j).1 ∧ z.2.1 = oI (akI all sm p (akA all sm (A 0 0) p) j).2 ∧ akOk all (akI all sm p (akA all sm (A 0 0) p) j)) (fun q => q.1 = nI (akA all sm (A 0 0) (p + 1)).1 ∧ q.2.1 = oI (akA all sm (A 0 0) (p + 1)).2 ∧ akOk all (akA all sm (A 0 0) (p + 1))) (A 0 0 - (p + 1)) ?_ ?_ (s0 := (nI (akA all sm (A 0 0) p).1, oI (akA all sm (A 0 0) p).2, nI (p + 1))) ⟨rfl, rfl, rfl, e4⟩
        · obtain ⟨⟨q1, q2, q3⟩, hq, f1, f2, f3⟩ := h3
          dsimp only at f1 f2
          rw [hq, some_bind]
          unfold m_X6_ask_K164
          exact ⟨_, rfl, nI_1 p, f1, f2, f3⟩
        · rintro j ⟨z1, z2, z3⟩ hj ⟨d3, d1, d2, d4⟩
          dsimp only at d1 d2 d3
          subst d1 d2 d3
          left
          obtain ⟨k1, k2⟩ := g5 p (p + 1 + j) hp (by omega)
          have hok := akOk_S (sm := sm) d4 (p := p) (q := p + 1 + j) (by omega) (by omega)
          have hmx : mxN (sm p (p + 1 + j)) (all - sm p (p + 1 + j)) ≤ all := by unfold mxN; split <;> omega
          have hw : (if nI (sm p (p + 1 + j)) ≤ nI all - nI (sm p (p + 1 + j)) then m_X6_ask_J206 (nI (akA all sm (A 0 0) p).1, oI (akA all sm (A 0 0) p).2, nI p) (nI (akI all sm p (akA all sm (A 0 0) p) j).1, oI (akI all sm p (akA all sm (A 0 0) p) j).2, nI (p + 1 + j)) (nI all - nI (sm p (p + 1 + j))) else m_X6_ask_J206 (nI (akA all sm (A 0 0) p).1, oI (akA all sm (A 0 0) p).2, nI p) (nI (akI all sm p (akA all sm (A 0 0) p) j).1, oI (akI all sm p (akA all sm (A 0 0) p) j).2, nI (p + 1 + j)) (nI (sm p (p + 1 + j)))) = m_X6_ask_J206 (nI (akA all sm (A 0 0) p).1, oI (akA all sm (A 0 0) p).2, nI p) (nI (akI all sm p (akA all sm (A 0 0) p) j).1, oI (akI all sm p (akA all sm (A 0 0) p) j).2, nI (p + 1 + j)) (nI (mxN (sm p (p + 1 + j)) (all - sm p (p + 1 + j)))) := by
            rw [pk_sub k2, ifp (cast_le (by omega) (by omega))]
            unfold mxN
            by_cases hc : sm p (p + 1 + j) ≤ all - sm p (p + 1 + j)
            · rw [if_pos hc]
              by_cases hc2 : sm p (p + 1 + j) < all - sm p (p + 1 + j)
              · rw [if_pos hc2]
              · rw [if_neg hc2, show all - sm p (p + 1 + j) = sm p (p + 1 + j) by omega]
            · rw [if_neg hc, if_neg (by omega)]
          unfold m_X6_ask_L164
          dsimp +instances only
          rw [g2.n0, if_neg (nI_ge (by omega) (by omega)), li_6, pk_mul, nI_add, inB_nI (by omega) (by omega), ck_true, nI_clamp (by omega), k1, hw]
          unfold m_X6_ask_J206
          dsimp +instances only
          have hle := d4.1
          rw [ifp (cast_le (by omega) (by omega)), ifp (cast_le (by omega) (by omega)), ifp (cast_le (by omega) (by omega)), nI_1, show (10 : Int32) = nI 10 from rfl, pk_mul, nI_add]
          show ∃ s' : Int32 × Int32 × Int32, _ = _ ∧ s'.2.2 = nI (p + 1 + (j + 1)) ∧ s'.1 = nI (akS all sm p (p + 1 + j) (akI all sm p (akA all sm (A 0 0) p) j)).1 ∧ s'.2.1 = oI (akS all sm p (p + 1 + j) (akI all sm p (akA all sm (A 0 0) p) j)).2 ∧ akOk all (akS all sm p (p + 1 + j) (akI all sm p (akA all sm (A 0 0) p) j))
          unfold akS at hok ⊢
          by_cases hc : mxN (sm p (p + 1 + j)) (all - sm p (p + 1 + j)) < (akI all sm p (akA all sm (A 0 0) p) j).1
          · rw [if_pos hc] at hok ⊢
            rw [if_neg (by omega), if_neg (by omega)]
            exact ⟨_, rfl, rfl, rfl, rfl, hok⟩
          · rw [if_neg hc] at hok ⊢
            rw [if_pos (by omega), if_pos (by omega)]
            exact ⟨_, rfl, rfl, rfl, rfl, hok⟩
        · rintro ⟨z1, z2, z3⟩ ⟨d3, d1, d2, d4⟩
          dsimp only at d1 d2 d3
          subst d1 d2 d3
          unfold m_X6_ask_L164
          dsimp +instances only
          rw [g2.n0, if_pos (nI_le (by omega) (by omega))]
          exact ⟨_, rfl, rfl, rfl, d4⟩
      · rintro ⟨z1, z2, z3⟩ ⟨e3, e1, e2, e4⟩
        dsimp only at e1 e2 e3
        subst e1 e2 e3
        unfold m_X6_ask_L149
        dsimp +instances only
        rw [g2.n0, if_pos (nI_le (Nat.le_refl _) (by omega))]
        exact ⟨_, rfl, rfl, rfl, e4⟩
    · rintro k ⟨z1, z2, z3⟩ hk ⟨e1, e2, e3, e4, e5⟩
      dsimp only at e1 e2 e3 e4 e5
      subst e1 e2
      left
      have hn0 : 0 < A 0 1 := by
        cases hz : A 0 1 with
        | zero => rw [hz, Nat.zero_pow (by omega)] at hk; omega
        | succ k => omega
      have hS' : RepN v7 z3 S A := RepN_f hS (e4.1 31 (by decide) (by decide) (by decide) (by decide) (by decide)) (e4.2.1 32 (by decide)) rfl
      obtain ⟨w', h1, h2, h3, h4, h5⟩ := possible_s e3 hW hS' hk
      have h1 : m_X6_isPossible z3 (nI k) = some (bI (poB A S k), w') := h1
      unfold m_X6_ask_L37
      dsimp +instances only
      rw [pictures_s e3 hW.1, some_bind, if_neg (nI_ge hk (by omega)), h1, some_bind, ifp (bI_0 _)]
      cases hp : poB A S k with
      | false =>
        rw [if_pos rfl, nI_1]
        refine ⟨_, rfl, ?_, rfl, h2, e4.tr h3, fun j hj => ?_⟩
        · dsimp only; rw [sumN, hp]; rfl
        · dsimp only; rw [h4 33 (by decide), e5 j hj, sumN, hp]; rfl
      | true =>
        rw [if_neg (by simp)]
        have h6 := lp_inv (step := m_X6_ask_L59) (fun j z => z.1 = nI j ∧ RM z.2 0 A ∧ Kp w z.2 ∧ (∀ p, p < A 0 0 → z.2 30 p = nI (dg (A 0 1) (A 0 0) k p)) ∧ ∀ i, i < 36 → z.2 33 i = nI (sumN (fun c => if poB A S c then alK6 (A 0 0) (dg (A 0 1) (A 0 0) c) i else 0) k + (if i < j then alK6 (A 0 0) (dg (A 0 1) (A 0 0) k) i else 0))) (fun r => RM r.2 0 A ∧ Kp w r.2 ∧ ∀ i, i < 36 → r.2 33 i = nI (sumN (fun c => if poB A S c then alK6 (A 0 0) (dg (A 0 1) (A 0 0) c) i else 0) k + alK6 (A 0 0) (dg (A 0 1) (A 0 0) k) i)) 36 ?_ ?_ (s0 := ((0 : Int32), w')) ⟨rfl, h2, e4.tr h3, h5, fun i hi => by dsimp only; rw [h4 33 (by decide), e5 i hi, if_neg (Nat.not_lt_zero i), Nat.add_zero]⟩
        · obtain ⟨⟨q1, q⟩, hq, f1, f2, f3⟩ := h6
          dsimp only at f1 f2 f3
          rw [hq, some_bind]
          unfold m_X6_ask_K59
          dsimp only
          rw [nI_1, nI_1]
          refine ⟨_, rfl, ?_, rfl, f1, f2, fun j hj => ?_⟩
          · dsimp only; rw [sumN, hp]; rfl
          · dsimp only; rw [f3 j hj, sumN, hp]; rfl
        · rintro j ⟨z1, z2⟩ hj ⟨d1, d2, d3, d4, d5⟩
          dsimp only at d1 d2 d3 d4 d5
          subst d1
          left
          have hj6 : j / 6 < 6 := by omega
          have hm6 := Nat.mod_lt j (show 6 > 0 by omega)
          have hset : ∀ y, y = alK6 (A 0 0) (dg (A 0 1) (A 0 0) k) j → RM (up2 z2 33 j (nI (sumN (fun c => if poB A S c then alK6 (A 0 0) (dg (A 0 1) (A 0 0) c) j else 0) k + y))) 0 A ∧ Kp w (up2 z2 33 j (nI (sumN (fun c => if poB A S c then alK6 (A 0 0) (dg (A 0 1) (A 0 0) c) j else 0) k + y))) ∧ (∀ p, p < A 0 0 → up2 z2 33 j (nI (sumN (fun c => if poB A S c then alK6 (A 0 0) (dg (A 0 1) (A 0 0) c) j else 0) k + y)) 30 p = nI (dg (A 0 1) (A 0 0) k p)) ∧ ∀ i, i < 36 → up2 z2 33 j (nI (sumN (fun c => if poB A S c then alK6 (A 0 0) (dg (A 0 1) (A 0 0) c) j else 0) k + y)) 33 i = nI (sumN (fun c => if poB A S c then alK6 (A 0 0) (dg (A 0 1) (A 0 0) c) i else 0) k + (if i < j + 1 then alK6 (A 0 0) (dg (A 0 1) (A 0 0) k) i else 0)) := by
            intro y hy
            subst hy
            refine ⟨RM_33 d2, d3.tr (Kp.up (.inr (.inr rfl))), fun p hp => by rw [up2_n (by decide)]; exact d4 p hp, fun i hi => ?_⟩
            by_cases hij : i = j
            · subst hij; rw [up2_ss, if_pos (Nat.lt_succ_self i)]
            · rw [up2_si hij, d5 i hi]
              by_cases h9 : i < j
              · rw [if_pos h9, if_pos (show i < j + 1 by omega)]
              · rw [if_neg h9, if_neg (show ¬ i < j + 1 by omega)]
          have ej := d5 j hj
          rw [if_neg (Nat.lt_irrefl j), Nat.add_zero] at ej
          unfold m_X6_ask_L59
          dsimp +instances only
          rw [show (36 : Int32) = nI 36 from rfl, if_neg (nI_ge hj (by omega)), inB_nI (by omega) (by omega)]
          simp only [ck_true, lett_eq]
          rw [li_6, pk_rem (by omega) (by omega) (by omega), pk_div (by omega) (by omega) (by omega), d2.n0, ifp (cast_le (by omega) (by omega)), ifp (cast_le (by omega) (by omega)), inB_nI hj6 (by omega), ck_true, inB_nI hm6 (by omega), ck_true, nI_clamp (by omega), nI_clamp (by omega), nI_clamp (by omega), ej]
          rw [ad0, nI_1, nI_1, ← Nat.add_zero (sumN (fun c => if poB A S c then alK6 (A 0 0) (dg (A 0 1) (A 0 0) c) j else 0) k)]
          by_cases c1 : A 0 0 ≤ j / 6
          · rw [if_pos c1]
            exact ⟨_, rfl, rfl, hset 0 (by unfold alK6; rw [if_neg (by omega)])⟩
          · rw [if_neg c1]
            by_cases c2 : A 0 0 ≤ j % 6
            · rw [if_pos c2]
              exact ⟨_, rfl, rfl, hset 0 (by unfold alK6; rw [if_neg (by omega)])⟩
            · have g1 := dg_lt (D := A 0 0) (c := k) (i := j / 6) hn0
              have g2 := dg_lt (D := A 0 0) (c := k) (i := j % 6) hn0
              rw [if_neg c2, d4 _ (by omega), d4 _ (by omega), ifp (cast_eq (by omega) (by omega))]
              by_cases c3 : dg (A 0 1) (A 0 0) k (j / 6) = dg (A 0 1) (A 0 0) k (j % 6)
              · rw [if_pos c3]
                exact ⟨_, rfl, rfl, hset 1 (by unfold alK6; rw [if_pos ⟨by omega, by omega, c3⟩])⟩
              · rw [if_neg c3]
                exact ⟨_, rfl, rfl, hset 0 (by unfold alK6; rw [if_neg (fun h => c3 h.2.2)])⟩
        · rintro ⟨z1, z2⟩ ⟨d1, d2, d3, d4, d5⟩
          dsimp only at d1 d2 d3 d4 d5
          subst d1
          unfold m_X6_ask_L59
          dsimp +instances only
          rw [show (36 : Int32) = nI 36 from rfl, if_pos (nI_le (Nat.le_refl _) (by omega))]
          exact ⟨_, rfl, d2, d3, fun i hi => by dsimp only; rw [d5 i hi, if_pos hi]⟩
    · rintro ⟨z1, z2, z3⟩ ⟨e1, e2, e3, e4, e5⟩
      dsimp only at e1 e2 e3 e4 e5
      subst e1 e2
      unfold m_X6_ask_L37
      dsimp +instances only
      rw [pictures_s e3 hW.1, some_bind, if_pos (nI_le (Nat.le_refl _) (by omega))]
      exact ⟨_, rfl, rfl, e3, e4, e5⟩
  · rintro k ⟨z1, z2⟩ hk ⟨e1, e2, e3, e4⟩
    dsimp only at e1 e2 e3 e4
    subst e1
    left
    unfold m_X6_ask_L16
    dsimp +instances only
    rw [show (36 : Int32) = nI 36 from rfl, if_neg (nI_ge hk (by omega)), inB_nI (by omega) (by omega), ck_true, nI_clamp (by omega), lett_eq, nI_1]
    refine ⟨_, rfl, rfl, RM_33 e2, e3.tr (Kp.up (.inr (.inr rfl))), fun s hs => ?_⟩
    dsimp only
    by_cases hsk : s = k
    · subst hsk; rw [up2_ss]; rfl
    · rw [up2_si hsk]; exact e4 s (by omega)
  · rintro ⟨z1, z2⟩ ⟨e1, e2, e3, e4⟩
    dsimp only at e1 e2 e3 e4
    subst e1
    unfold m_X6_ask_L16
    dsimp +instances only
    rw [show (36 : Int32) = nI 36 from rfl, if_pos (nI_le (Nat.le_refl _) (by omega))]
    exact ⟨_, rfl, e2, e3, e4⟩
