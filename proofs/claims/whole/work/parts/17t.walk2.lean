/-! ===== PURE: the walk: begin, prices, numbers ===== -/
theorem begin_s {v u w7 w : SV} {A S : AS} (hR : RepC u A) (hW : WF A) (hS : RepN w7 w S A) (h10 : v 10 0 = nI 0) (fl : Bool) (fig : Nat → Nat) (pr : Nat → Nat → Nat) : ∃ v', m_X4_begin v u w7 (bI fl) = some v' ∧ WC v' A (if fl then S 0 0 else 0) 6 1000 (A 0 0) (fun _ _ => 0) ∧ v' 0 5 = nI 0 ∧ v' 8 0 + 1 = nI 0 ∧ v' 9 0 = nI (awM A S (if fl then S 0 0 else 0) fig 0) := by
  have hn := hW.1.n
  have hJ : ∀ h, h ≤ S 0 0 → ∃ v', m_X4_begin_J16 v u w7 (nI h) = some v' ∧ WC v' A h 6 1000 (A 0 0) (fun _ _ => 0) ∧ v' 0 5 = nI 0 ∧ v' 8 0 + 1 = nI 0 ∧ v' 9 0 = nI (awM A S h fig 0) := by
    intro h hh
    unfold m_X4_begin_J16
    simp only [lett_eq]
    rw [fill_s (by omega), some_bind, hR.n (j := 0) (by omega)]
    generalize hv7 : upr (up2 (up2 (up2 (up2 v 0 2 (nI h)) 0 3 6) 0 4 1000) 0 6 (nI (A 0 0))) 11 (fun i => if i < 30 then 0 else up2 (up2 (up2 (up2 v 0 2 (nI h)) 0 3 6) 0 4 1000) 0 6 (nI (A 0 0)) 11 i) = v7
    have f2 : v7 0 2 = nI h := by rw [← hv7, upr_n (by decide), up2_si (by decide), up2_si (by decide), up2_si (by decide), up2_ss]
    have f3 : v7 0 3 = nI 6 := by rw [← hv7, upr_n (by decide), up2_si (by decide), up2_si (by decide), up2_ss]; rfl
    have f4 : v7 0 4 = nI 1000 := by rw [← hv7, upr_n (by decide), up2_si (by decide), up2_ss]; rfl
    have f6 : v7 0 6 = nI (A 0 0) := by rw [← hv7, upr_n (by decide), up2_ss]
    have f11 : ∀ i, i < 30 → v7 11 i = nI 0 := fun i hi => by rw [← hv7, upr_s, if_pos hi]; rfl
    have f10 : v7 10 0 = nI 0 := by rw [← hv7, upr_n (by decide), up2_n (by decide), up2_n (by decide), up2_n (by decide), up2_n (by decide), h10]
    have := lp_inv (step := m_X4_begin_L53 u) (fun k z => z.1 = nI k ∧ (∀ s, s < k → s < A 0 1 → z.2 7 s = nI (lkM A s)) ∧ ∀ r, r ≠ 7 → z.2 r = v7 r) (fun r => (∀ s, s < A 0 1 → r.2 7 s = nI (lkM A s)) ∧ ∀ j, j ≠ 7 → r.2 j = v7 j) (A 0 1) ?_ ?_ (s0 := ((0 : Int32), v7)) ⟨rfl, fun s hs => absurd hs (Nat.not_lt_zero s), fun _ _ => rfl⟩
    · obtain ⟨⟨r1, r⟩, hr, g1, g2⟩ := this
      dsimp only at g1 g2
      rw [hr, some_bind]
      unfold m_X4_begin_K53
      dsimp only
      rw [li_0, open_s (h := h) (S := S) (fig := fig) (p := 0) hR hW hS hh (by rw [g2 0 (by decide), f2]) g1 (fun i hi => absurd hi (Nat.not_lt_zero i)) (by omega), some_bind]
      refine ⟨_, rfl, ⟨?_, ?_, ?_, ?_, ?_, ?_, ?_⟩, ?_, ?_, ?_⟩
      · rw [up2_n (by decide), up2_n (by decide), up2_si (by decide), g2 0 (by decide), f2]
      · rw [up2_n (by decide), up2_n (by decide), up2_si (by decide), g2 0 (by decide), f3]
      · rw [up2_n (by decide), up2_n (by decide), up2_si (by decide), g2 0 (by decide), f4]
      · rw [up2_n (by decide), up2_n (by decide), up2_si (by decide), g2 0 (by decide), f6]
      · intro s hs; rw [up2_n (by decide), up2_n (by decide), up2_n (by decide)]; exact g1 s hs
      · intro p hp s hs; rw [up2_n (by decide), up2_n (by decide), up2_n (by decide), g2 11 (by decide)]; exact f11 _ (by omega)
      · rw [up2_n (by decide), up2_n (by decide), up2_n (by decide), g2 10 (by decide), f10]
      · rw [up2_n (by decide), up2_n (by decide), up2_ss]
      · rw [up2_n (by decide), up2_ss]; rfl
      · rw [up2_ss]
    · rintro k ⟨z1, z2⟩ hk ⟨e1, e2, e3⟩
      dsimp only at e1 e2 e3
      subst e1
      left
      unfold m_X4_begin_L53
      dsimp +instances only
      rw [hR.n (j := 1) (by omega), if_neg (nI_ge hk (by omega)), inB_nI (by omega) (by omega), ck_true, nI_clamp (by omega), lett_eq]
      have hi := lp_inv (step := m_X4_begin_L73 u (nI k, z2)) (fun j z => z.1 = nI j ∧ z.2 7 k = nI (orN (fun t => likA A k t) j) ∧ (∀ s, s < k → s < A 0 1 → z.2 7 s = nI (lkM A s)) ∧ ∀ r, r ≠ 7 → z.2 r = v7 r) (fun r => (∀ s, s < k + 1 → s < A 0 1 → r.2 7 s = nI (lkM A s)) ∧ ∀ j, j ≠ 7 → r.2 j = v7 j) (A 0 1) ?_ ?_ (s0 := ((0 : Int32), up2 z2 7 k 0)) ⟨rfl, by dsimp only; rw [up2_ss]; rfl, fun s hs hs2 => by dsimp only; rw [up2_si (by omega)]; exact e2 s hs hs2, fun r hr => by dsimp only; rw [up2_n hr]; exact e3 r hr⟩
      · obtain ⟨⟨r1, r⟩, hr, g1, g2⟩ := hi
        dsimp only at g1 g2
        rw [hr, some_bind]
        unfold m_X4_begin_K73
        dsimp only
        rw [nI_1]
        exact ⟨_, rfl, rfl, g1, g2⟩
      · rintro j ⟨y1, y2⟩ hj ⟨d1, d2, d3, d4⟩
        dsimp only at d1 d2 d3 d4
        subst d1
        left
        unfold m_X4_begin_L73
        dsimp +instances only
        rw [hR.n (j := 1) (by omega), if_neg (nI_ge hj (by omega)), areLike_s hR hW.1 hk hj, some_bind, ifp (bI_0 _), inB_nI (by omega) (by omega), ck_true, ck_true, nI_clamp (by omega), lett_eq, d2, b_two (by omega), nx_or, nI_1]
        show ∃ s' : Int32 × SV, _ = _ ∧ s'.1 = nI (j + 1) ∧ s'.2 7 k = nI (if likA A k j then orN (fun t => likA A k t) j ||| 2 ^ j else orN (fun t => likA A k t) j) ∧ _
        cases likA A k j with
        | false => rw [if_pos rfl]; exact ⟨_, rfl, rfl, d2, d3, d4⟩
        | true =>
          rw [if_neg (by simp)]
          exact ⟨_, rfl, rfl, by dsimp only; rw [up2_ss, if_pos rfl], fun s hs hs2 => by dsimp only; rw [up2_si (by omega)]; exact d3 s hs hs2, fun r hr => by dsimp only; rw [up2_n hr]; exact d4 r hr⟩
      · rintro ⟨y1, y2⟩ ⟨d1, d2, d3, d4⟩
        dsimp only at d1 d2 d3 d4
        subst d1
        unfold m_X4_begin_L73
        dsimp +instances only
        rw [hR.n (j := 1) (by omega), if_pos (nI_le (Nat.le_refl _) (by omega))]
        refine ⟨_, rfl, fun s hs hs2 => ?_, d4⟩
        by_cases hsk : s = k
        · subst hsk; exact d2
        · exact d3 s (by omega) hs2
    · rintro ⟨z1, z2⟩ ⟨e1, e2, e3⟩
      dsimp only at e1 e2 e3
      subst e1
      unfold m_X4_begin_L53
      dsimp +instances only
      rw [hR.n (j := 1) (by omega), if_pos (nI_le (Nat.le_refl _) (by omega))]
      exact ⟨_, rfl, fun s hs => e2 s hs hs, e3⟩
  unfold m_X4_begin
  cases fl with
  | false => rw [if_pos (show bI false = 0 from rfl)]; exact hJ 0 (by omega)
  | true => rw [if_neg (show ¬ bI true = 0 from by decide), hS.1]; exact hJ (S 0 0) (Nat.le_refl _)
def prCh (A : AS) (p s : Nat) : Nat := if tpA A p = some s then 0 else 1
def prSi (A : AS) (p s : Nat) : Nat := if p < A 0 0 ∧ s < A 0 1 then A 11 s * A 6 p else 0
theorem WC_11 {v v' : SV} {A : AS} {h q b D : Nat} {pr pr' : Nat → Nat → Nat} (h9 : WC v A h q b D pr) (ho : ∀ r, r ≠ 11 → v' r = v r) (h11 : ∀ p, p < A 0 0 → ∀ s, s < A 0 1 → v' 11 (p * 5 + s) = nI (pr' p s)) : WC v' A h q b D pr' := by
  obtain ⟨c2, c3, c4, c6, c7, c11, c10⟩ := h9
  unfold WC
  rw [ho 0 (by decide), ho 7 (by decide), ho 10 (by decide)]
  exact ⟨c2, c3, c4, c6, c7, h11, c10⟩
theorem priceChanges_s {v u : SV} (w7 : SV) {A : AS} (hR : RepC u A) (hW : WF A) : ∃ v', m_X4_priceChanges v u w7 = some v' ∧ (∀ r, r ≠ 11 → v' r = v r) ∧ ∀ p, p < A 0 0 → ∀ s, s < A 0 1 → v' 11 (p * 5 + s) = nI (prCh A p s) := by
  have hn := hW.1.n
  unfold m_X4_priceChanges
  have := lp_inv (step := m_X4_priceChanges_L2 u) (fun k z => z.1 = nI k ∧ (∀ r, r ≠ 11 → z.2 r = v r) ∧ ∀ p, p < k → ∀ s, s < A 0 1 → z.2 11 (p * 5 + s) = nI (prCh A p s)) (fun r => (∀ j, j ≠ 11 → r.2 j = v j) ∧ ∀ p, p < A 0 0 → ∀ s, s < A 0 1 → r.2 11 (p * 5 + s) = nI (prCh A p s)) (A 0 0) ?_ ?_ (s0 := ((0 : Int32), v)) ⟨rfl, fun _ _ => rfl, fun p hp => absurd hp (Nat.not_lt_zero p)⟩
  · obtain ⟨r, hr, g1, g2⟩ := this
    rw [hr, some_bind]
    exact ⟨_, rfl, g1, g2⟩
  · rintro k ⟨z1, z2⟩ hk ⟨e1, e2, e3⟩
    dsimp only at e1 e2 e3
    subst e1
    left
    unfold m_X4_priceChanges_L2
    dsimp +instances only
    rw [hR.n (j := 0) (by omega), if_neg (nI_ge hk (by omega))]
    have hi := lp_inv (step := m_X4_priceChanges_L15 u (nI k, z2)) (fun j z => z.1 = nI j ∧ (∀ r, r ≠ 11 → z.2 r = v r) ∧ (∀ p, p < k → ∀ s, s < A 0 1 → z.2 11 (p * 5 + s) = nI (prCh A p s)) ∧ ∀ s, s < j → z.2 11 (k * 5 + s) = nI (prCh A k s)) (fun r => (∀ j, j ≠ 11 → r.2 j = v j) ∧ ∀ p, p < k + 1 → ∀ s, s < A 0 1 → r.2 11 (p * 5 + s) = nI (prCh A p s)) (A 0 1) ?_ ?_ (s0 := ((0 : Int32), z2)) ⟨rfl, e2, e3, fun s hs => absurd hs (Nat.not_lt_zero s)⟩
    · obtain ⟨⟨r1, r⟩, hr, g1, g2⟩ := hi
      dsimp only at g1 g2
      rw [hr, some_bind]
      unfold m_X4_priceChanges_K15
      dsimp only
      rw [nI_1]
      exact ⟨_, rfl, rfl, g1, g2⟩
    · rintro j ⟨y1, y2⟩ hj ⟨d1, d2, d3, d4⟩
      dsimp only at d1 d2 d3 d4
      subst d1
      left
      have hset : ∀ x, x = prCh A k j → (∀ r, r ≠ 11 → up2 y2 11 (k * 5 + j) (nI x) r = v r) ∧ (∀ p, p < k → ∀ s, s < A 0 1 → up2 y2 11 (k * 5 + j) (nI x) 11 (p * 5 + s) = nI (prCh A p s)) ∧ ∀ s, s < j + 1 → up2 y2 11 (k * 5 + j) (nI x) 11 (k * 5 + s) = nI (prCh A k s) := by
        intro x hx
        subst hx
        refine ⟨fun r hr => by rw [up2_n hr, d2 r hr], fun p hp s hs => by rw [up2_si (by omega)]; exact d3 p hp s hs, fun s hs => ?_⟩
        by_cases hsj : s = j
        · subst hsj; rw [up2_ss]
        · rw [up2_si (by omega)]; exact d4 s (by omega)
      unfold m_X4_priceChanges_L15
      dsimp +instances only
      rw [hR.n (j := 1) (by omega), if_neg (nI_ge hj (by omega)), top_s hR hW.1 hk, some_bind, show nI j = oI (some j) from rfl, ifp (oI_eq (fun t ht => by have := tpA_5 hW (by omega) ht; omega) (fun t ht => by cases ht; omega)), show oI (some j) = nI j from rfl, li_5, pk_mul, nI_add, inB_nI (by omega) (by omega), ck_true, ck_true, nI_clamp (by omega), lett_eq, lett_eq, nI_1]
      by_cases hc : tpA A k = some j
      · rw [if_pos hc]
        exact ⟨_, rfl, rfl, hset 0 (by unfold prCh; rw [if_pos hc])⟩
      · rw [if_neg hc]
        exact ⟨_, rfl, rfl, hset 1 (by unfold prCh; rw [if_neg hc])⟩
    · rintro ⟨y1, y2⟩ ⟨d1, d2, d3, d4⟩
      dsimp only at d1 d2 d3 d4
      subst d1
      unfold m_X4_priceChanges_L15
      dsimp +instances only
      rw [hR.n (j := 1) (by omega), if_pos (nI_le (Nat.le_refl _) (by omega))]
      refine ⟨_, rfl, d2, fun p hp s hs => ?_⟩
      by_cases hpk : p = k
      · subst hpk; exact d4 s hs
      · exact d3 p (by omega) s hs
  · rintro ⟨z1, z2⟩ ⟨e1, e2, e3⟩
    dsimp only at e1 e2 e3
    subst e1
    unfold m_X4_priceChanges_L2
    dsimp +instances only
    rw [hR.n (j := 0) (by omega), if_pos (nI_le (Nat.le_refl _) (by omega))]
    exact ⟨_, rfl, e2, e3⟩
theorem priceSittings_s {v u : SV} (w7 : SV) {A : AS} (hR : RepC u A) (hW : WF A) : ∃ v', m_X4_priceSittings v u w7 = some v' ∧ (∀ r, r ≠ 11 → v' r = v r) ∧ ∀ p, p < A 0 0 → ∀ s, s < A 0 1 → v' 11 (p * 5 + s) = nI (prSi A p s) := by
  have hn := hW.1.n
  unfold m_X4_priceSittings
  have := lp_inv (step := m_X4_priceSittings_L2 u) (fun k z => z.1 = nI k ∧ (∀ r, r ≠ 11 → z.2 r = v r) ∧ ∀ p, p < k → ∀ s, s < A 0 1 → z.2 11 (p * 5 + s) = nI (prSi A p s)) (fun r => (∀ j, j ≠ 11 → r.2 j = v j) ∧ ∀ p, p < A 0 0 → ∀ s, s < A 0 1 → r.2 11 (p * 5 + s) = nI (prSi A p s)) (A 0 0) ?_ ?_ (s0 := ((0 : Int32), v)) ⟨rfl, fun _ _ => rfl, fun p hp => absurd hp (Nat.not_lt_zero p)⟩
  · obtain ⟨r, hr, g1, g2⟩ := this
    rw [hr, some_bind]
    exact ⟨_, rfl, g1, g2⟩
  · rintro k ⟨z1, z2⟩ hk ⟨e1, e2, e3⟩
    dsimp only at e1 e2 e3
    subst e1
    left
    unfold m_X4_priceSittings_L2
    dsimp +instances only
    rw [hR.n (j := 0) (by omega), if_neg (nI_ge hk (by omega))]
    have hi := lp_inv (step := m_X4_priceSittings_L15 u (nI k, z2)) (fun j z => z.1 = nI j ∧ (∀ r, r ≠ 11 → z.2 r = v r) ∧ (∀ p, p < k → ∀ s, s < A 0 1 → z.2 11 (p * 5 + s) = nI (prSi A p s)) ∧ ∀ s, s < j → z.2 11 (k * 5 + s) = nI (prSi A k s)) (fun r => (∀ j, j ≠ 11 → r.2 j = v j) ∧ ∀ p, p < k + 1 → ∀ s, s < A 0 1 → r.2 11 (p * 5 + s) = nI (prSi A p s)) (A 0 1) ?_ ?_ (s0 := ((0 : Int32), z2)) ⟨rfl, e2, e3, fun s hs => absurd hs (Nat.not_lt_zero s)⟩
    · obtain ⟨⟨r1, r⟩, hr, g1, g2⟩ := hi
      dsimp only at g1 g2
      rw [hr, some_bind]
      unfold m_X4_priceSittings_K15
      dsimp only
      rw [nI_1]
      exact ⟨_, rfl, rfl, g1, g2⟩
    · rintro j ⟨y1, y2⟩ hj ⟨d1, d2, d3, d4⟩
      dsimp only at d1 d2 d3 d4
      subst d1
      left
      have hx : prSi A k j = A 11 j * A 6 k := by unfold prSi; rw [if_pos ⟨hk, hj⟩]
      unfold m_X4_priceSittings_L15
      dsimp +instances only
      rw [hR.n (j := 1) (by omega), if_neg (nI_ge hj (by omega)), li_5, pk_mul, nI_add, inB_nI (by omega) (by omega), inB_nI (by omega) (by omega), inB_nI (by omega) (by omega), ck_true, ck_true, ck_true, nI_clamp (by omega), nI_clamp (by omega), nI_clamp (by omega), hR.r11 j (by omega), hR.r6 k (by omega), pk_mul, ← hx, lett_eq, nI_1]
      refine ⟨_, rfl, rfl, fun r hr => by dsimp only; rw [up2_n hr, d2 r hr], fun p hp s hs => by dsimp only; rw [up2_si (by omega)]; exact d3 p hp s hs, fun s hs => ?_⟩
      dsimp only
      by_cases hsj : s = j
      · subst hsj; rw [up2_ss]
      · rw [up2_si (by omega)]; exact d4 s (by omega)
    · rintro ⟨y1, y2⟩ ⟨d1, d2, d3, d4⟩
      dsimp only at d1 d2 d3 d4
      subst d1
      unfold m_X4_priceSittings_L15
      dsimp +instances only
      rw [hR.n (j := 1) (by omega), if_pos (nI_le (Nat.le_refl _) (by omega))]
      refine ⟨_, rfl, d2, fun p hp s hs => ?_⟩
      by_cases hpk : p = k
      · subst hpk; exact d4 s hs
      · exact d3 p (by omega) s hs
  · rintro ⟨z1, z2⟩ ⟨e1, e2, e3⟩
    dsimp only at e1 e2 e3
    subst e1
    unfold m_X4_priceSittings_L2
    dsimp +instances only
    rw [hR.n (j := 0) (by omega), if_pos (nI_le (Nat.le_refl _) (by omega))]
    exact ⟨_, rfl, e2, e3⟩
theorem prCh_le (A : AS) (p s : Nat) : prCh A p s ≤ 81 := by unfold prCh; split <;> omega
theorem prSi_le {A : AS} (hW : WFb A) (p s : Nat) : prSi A p s ≤ 81 := by
  have hn := hW.n
  unfold prSi
  split
  · rename_i h
    have := hW.bs s h.2
    have := hW.b6 p (by omega)
    exact Nat.mul_le_mul (show A 11 s ≤ 9 by omega) (show A 6 p ≤ 9 by omega)
  · omega
/-! numbers of pictures -/
def nuN (n : Nat) (fig : Nat → Nat) : Nat → Nat
  | 0 => 0
  | k + 1 => nuN n fig k * n + fig k
theorem nuN_congr {n : Nat} {f g : Nat → Nat} : ∀ k, (∀ i, i < k → f i = g i) → nuN n f k = nuN n g k := by
  intro k
  induction k with
  | zero => intro _; rfl
  | succ k ih => intro e; rw [nuN, nuN, ih (fun i hi => e i (by omega)), e k (by omega)]
theorem nuN_lt {n : Nat} {f : Nat → Nat} : ∀ k, (∀ i, i < k → f i < n) → nuN n f k < n ^ k := by
  intro k
  induction k with
  | zero => intro _; exact Nat.one_pos
  | succ k ih =>
    intro h
    have h1 := ih (fun i hi => h i (by omega))
    have h2 := h k (by omega)
    rw [nuN, Nat.pow_succ]
    have : (nuN n f k + 1) * n ≤ n ^ k * n := Nat.mul_le_mul_right n h1
    rw [Nat.succ_mul] at this
    omega
theorem nuN_inj {n : Nat} {f g : Nat → Nat} : ∀ k, (∀ i, i < k → f i < n) → (∀ i, i < k → g i < n) → nuN n f k = nuN n g k → ∀ i, i < k → f i = g i := by
  intro k
  induction k with
  | zero => intro _ _ _ i hi; omega
  | succ k ih =>
    intro hf hg e i hi
    rw [nuN, nuN] at e
    have h1 := hf k (by omega)
    have h2 := hg k (by omega)
    have e1 : nuN n f k = nuN n g k := by
      have a := Nat.mul_add_div (show n > 0 by omega) (nuN n f k) (f k)
      have b := Nat.mul_add_div (show n > 0 by omega) (nuN n g k) (g k)
      rw [Nat.div_eq_of_lt h1, Nat.add_zero, Nat.mul_comm] at a
      rw [Nat.div_eq_of_lt h2, Nat.add_zero, Nat.mul_comm] at b
      rw [← a, ← b, e]
    by_cases hik : i = k
    · subst hik
      rw [e1] at e
      omega
    · exact ih (fun i hi => hf i (by omega)) (fun i hi => hg i (by omega)) e1 i (by omega)
def prf (n D c i : Nat) : Nat := c / n ^ (D - i)
def dg (n D c i : Nat) : Nat := c / n ^ (D - 1 - i) % n
theorem prf_s {n D c i : Nat} (hi : i < D) : prf n D c (i + 1) = prf n D c i * n + dg n D c i := by
  unfold prf dg
  rw [show D - (i + 1) = D - 1 - i by omega, show D - i = D - 1 - i + 1 by omega, Nat.pow_succ, ← Nat.div_div_eq_div_mul, Nat.mul_comm]
  exact (Nat.div_add_mod _ _).symm
theorem prf_0 {n D c : Nat} (hc : c < n ^ D) : prf n D c 0 = 0 := Nat.div_eq_of_lt hc
theorem dg_lt {n D c i : Nat} (hn : 0 < n) : dg n D c i < n := Nat.mod_lt _ hn
theorem nu_dg {n D c : Nat} (hc : c < n ^ D) : ∀ i, i ≤ D → nuN n (dg n D c) i = prf n D c i := by
  intro i
  induction i with
  | zero => intro _; rw [prf_0 hc]; rfl
  | succ i ih => intro hi; rw [nuN, ih (by omega), prf_s (by omega)]
theorem nu_dgD {n D c : Nat} (hc : c < n ^ D) : nuN n (dg n D c) D = c := by
  rw [nu_dg hc D (Nat.le_refl _)]
  unfold prf
  rw [Nat.sub_self, Nat.pow_zero, Nat.div_one]
theorem dg_of {n D p s c : Nat} {fig : Nat → Nat} (hc : c < n ^ D) (hp : p < D) (hf : ∀ i, i < p → fig i < n) (hs : s < n) (e : prf n D c (p + 1) = nuN n fig p * n + s) : dg n D c p = s ∧ ∀ i, i < p → dg n D c i = fig i := by
  have hn : 0 < n := by omega
  have h1 := nu_dg hc (p + 1) (by omega)
  rw [e] at h1
  have h2 : nuN n (fun i => if i = p then s else fig i) (p + 1) = nuN n fig p * n + s := by
    rw [nuN, if_pos rfl, nuN_congr p (g := fig) (fun i hi => by rw [if_neg (by omega)])]
  have h3 := nuN_inj (p + 1) (f := dg n D c) (g := fun i => if i = p then s else fig i) (fun i _ => dg_lt hn) (fun i hi => by
    split
    · exact hs
    · exact hf i (by omega)) (h1.trans h2.symm)
  refine ⟨?_, fun i hi => ?_⟩
  · have := h3 p (by omega); rw [if_pos rfl] at this; exact this
  · have := h3 i (by omega); rw [if_neg (by omega)] at this; exact this
theorem dg_nu {n D : Nat} {fig : Nat → Nat} (hf : ∀ i, i < D → fig i < n) (i : Nat) (hi : i < D) : dg n D (nuN n fig D) i = fig i := by
  have hn : 0 < n := by have := hf i hi; omega
  have hc := nuN_lt D hf
  exact nuN_inj D (fun i _ => dg_lt hn) hf (nu_dgD hc) i hi
theorem number_s {v u : SV} (w7 : SV) {A : AS} {fig : Nat → Nat} (hR : RepC u A) (hW : WFb A) (h8 : ∀ i, i < A 0 0 → v 8 i = nI (fig i)) : m_X4_number v u w7 = some (nI (nuN (A 0 1) fig (A 0 0))) := by
  have hn := hW.n
  unfold m_X4_number
  rw [show ((0 : Int32), (0 : Int32)) = (fun k => (nI (nuN (A 0 1) fig k), nI k)) 0 from rfl]
  rw [lp_run (step := m_X4_number_L4 v u) (fun k => (nI (nuN (A 0 1) fig k), nI k)) (A 0 0) (r := (nI (nuN (A 0 1) fig (A 0 0)), nI (A 0 0)))]
  · rfl
  · intro k hk
    unfold m_X4_number_L4
    dsimp +instances only
    rw [hR.n (j := 0) (by omega), if_neg (nI_ge hk (by omega)), inB_nI (by omega) (by omega), ck_true, nI_clamp (by omega), h8 k hk, hR.n (j := 1) (by omega), pk_mul, nI_add, nI_1]
    rfl
  · unfold m_X4_number_L4
    dsimp +instances only
    rw [hR.n (j := 0) (by omega), if_pos (nI_le (Nat.le_refl _) (by omega))]
