/-! ===== PURE: alive, mean ===== -/
def prN (a : Nat) (sh : Nat → Bool) : Nat → Nat
  | 0 => 1
  | k + 1 => if sh k then prN a sh k * a else prN a sh k
theorem prN_le {a : Nat} (ha : a ≤ 10) (sh : Nat → Bool) : ∀ k, prN a sh k ≤ 10 ^ k := by
  intro k
  induction k with
  | zero => exact Nat.le_refl _
  | succ k ih =>
    simp only [prN]
    rw [Nat.pow_succ]
    split
    · exact Nat.mul_le_mul ih ha
    · have : 0 < 10 ^ k := Nat.pow_pos (by decide)
      omega
theorem prN_pos {a : Nat} (ha : 0 < a) (sh : Nat → Bool) : ∀ k, 0 < prN a sh k := by
  intro k
  induction k with
  | zero => exact Nat.one_pos
  | succ k ih =>
    simp only [prN]
    split
    · exact Nat.mul_pos ih ha
    · exact ih
theorem prN_congr {a : Nat} {f g : Nat → Bool} : ∀ n, (∀ k, k < n → f k = g k) → prN a f n = prN a g n := by
  intro n
  induction n with
  | zero => intro _; rfl
  | succ n ih => intro e; simp only [prN]; rw [ih (fun k hk => e k (by omega)), e n (by omega)]
def wtN (u m : Nat) : Nat → Nat
  | 0 => 1
  | k + 1 => wtN u m k * (if m.testBit k then 10 - u else u)
theorem wtN_le {u : Nat} (hu : u ≤ 10) (m : Nat) : ∀ k, wtN u m k ≤ 10 ^ k := by
  intro k
  induction k with
  | zero => exact Nat.le_refl _
  | succ k ih =>
    simp only [wtN]
    rw [Nat.pow_succ]
    exact Nat.mul_le_mul ih (by split <;> omega)
theorem p10_5 {n : Nat} (h : n ≤ 5) : 1 ≤ 10 ^ n ∧ 10 ^ n ≤ 100000 := ⟨Nat.pow_pos (by decide), Nat.pow_le_pow_right (by decide) h⟩
def shwB (A : AS) (s : Nat) : Bool := decide (¬ shA A (some s) = 0)
theorem shA_lt {A : AS} (hW : WFb A) (o : Option Nat) : shA A o < 64 := by
  have hn := hW.n
  have := orN_lt (fun p => decide (tpA A p = o)) (A 0 0)
  have := p2_5 (n := A 0 0) (by omega)
  unfold shA
  omega
def alU (A : AS) (u : Nat) : Nat := sumN (fun m => wtN u m (A 0 1) * (if orN (shwB A) (A 0 1) &&& m = orN (shwB A) (A 0 1) then 1 else 0)) (2 ^ A 0 1)
def meU (A : AS) (u : Nat) : Nat := sumN (fun m => wtN u m (A 0 1) * valA A m) (2 ^ A 0 1)
theorem al_chk : ∀ n, n < 6 → ∀ u, u < 11 → ∀ M, M < 2 ^ n → sumN (fun m => wtN u m n * (if M &&& m = M then 1 else 0)) (2 ^ n) * prN 10 (fun k => M.testBit k) n = prN (10 - u) (fun k => M.testBit k) n * 10 ^ n := by decide +kernel
theorem msk_chk : ∀ M, M < 32 → ∀ m, m < 32 → decide ((nI M &&& (nI m ^^^ (-1 : Int32))) = 0) = decide (M &&& m = M) := by decide +kernel
theorem sub10 {u : Nat} (hu : u ≤ 10) : ((10 : Int32) - nI u).toInt64 = lN (10 - u) := by
  rw [show (10 : Int32) = nI 10 from rfl, pk_sub hu, nI_l (by omega)]
theorem alive_s (v0 : SV) {v : SV} {A : AS} (hR : RepC v A) (hW : WF A) {u w : Nat} (hu : u < 11) (hw : w < 2) : m_X5_alive v0 v (nI u) (nI w) = some (frL (prN (10 - u) (shwB A) (A 0 1)) (prN 10 (shwB A) (A 0 1)) (nI w)) := by
  have hn := hW.1.n
  have h10 := p10_5 (n := A 0 1) (by omega)
  have l1 := prN_le (a := 10 - u) (by omega) (shwB A) (A 0 1)
  have l2 := prN_le (a := 10) (by omega) (shwB A) (A 0 1)
  have l3 := prN_pos (a := 10) (by omega) (shwB A) (A 0 1)
  unfold m_X5_alive
  rw [within_s (k := 11) (by decide) (by omega), some_bind, ix_nI hu (by omega), Option.isSome_some, if_neg (by decide), within_s (k := 2) (by decide) (by omega), some_bind, ix_nI hw (by omega), Option.isSome_some, if_neg (by decide)]
  rw [show ((1 : Int64), (1 : Int64), (0 : Int32)) = (fun k => (lN (prN (10 - u) (shwB A) k), lN (prN 10 (shwB A) k), nI k)) 0 from rfl]
  rw [lp_run (step := m_X5_alive_L31 v (nI u)) (fun k => (lN (prN (10 - u) (shwB A) k), lN (prN 10 (shwB A) k), nI k)) (A 0 1) (r := (lN (prN (10 - u) (shwB A) (A 0 1)), lN (prN 10 (shwB A) (A 0 1)), nI (A 0 1)))]
  · rw [some_bind]
    unfold m_X5_alive_K31
    dsimp +instances only
    rw [fraction_s (by omega) (by omega) l3, some_bind]
  · intro k hk
    have hsl := shA_lt hW.1 (some k)
    unfold m_X5_alive_L31
    dsimp +instances only
    rw [hR.n (j := 1) (by omega), if_neg (nI_ge hk (by omega)), show nI k = oI (some k) from rfl, showing_s hR hW (fun t h => by cases h; omega), some_bind, show oI (some k) = nI k from rfl, ifp (show (nI (shA A (some k)) = (0 : Int32)) = (shA A (some k) = 0) from cast_eq (b := 0) (by omega) (by omega)), sub10 (by omega), nI_1, lN_mul, show (10 : Int64) = lN 10 from rfl, lN_mul]
    show _ = some (Sum.inl (lN (if shwB A k then prN (10 - u) (shwB A) k * (10 - u) else prN (10 - u) (shwB A) k), lN (if shwB A k then prN 10 (shwB A) k * 10 else prN 10 (shwB A) k), nI (k + 1)))
    unfold shwB
    by_cases h : shA A (some k) = 0
    · rw [if_pos h, if_neg (by simp [h]), if_neg (by simp [h])]
    · rw [if_neg h, if_pos (by simp [h]), if_pos (by simp [h])]
  · unfold m_X5_alive_L31
    dsimp +instances only
    rw [hR.n (j := 1) (by omega), if_pos (nI_le (Nat.le_refl _) (by omega))]
theorem wt_s {w : SV} {A : AS} (hM : RM w 0 A) (hW : WFb A) {u m : Nat} (hu : u ≤ 10) (hm : m < 32) (z : Int64) : lpC (m_X6_byLife_L78 w (nI u) (z, nI m)) ((1 : Int64), (0 : Int32)) = some (lN (wtN u m (A 0 1)), nI (A 0 1)) := by
  have hn := hW.n
  rw [show ((1 : Int64), (0 : Int32)) = (fun k => (lN (wtN u m k), nI k)) 0 from rfl]
  refine lp_run (step := m_X6_byLife_L78 w (nI u) (z, nI m)) (fun k => (lN (wtN u m k), nI k)) (A 0 1) ?_ ?_
  · intro k hk
    unfold m_X6_byLife_L78
    dsimp +instances only
    rw [hM.n1, if_neg (nI_ge hk (by omega)), ifp (b_t1 (m := m) (s := k) (by omega) (by omega)), sub10 hu, nI_l (by omega), lN_mul, lN_mul, nI_1]
    show _ = some (Sum.inl (lN (wtN u m k * (if m.testBit k then 10 - u else u)), nI (k + 1)))
    cases m.testBit k <;> rfl
  · unfold m_X6_byLife_L78
    dsimp +instances only
    rw [hM.n1, if_pos (nI_le (Nat.le_refl _) (by omega))]
theorem mask_s {w : SV} {A : AS} (hM : RM w 0 A) (hW : WF A) : lpC (m_X6_byLife_L12 w) ((0 : Int32), (1 : Int64), (0 : Int32)) = some (nI (orN (shwB A) (A 0 1)), lN (10 ^ A 0 1), nI (A 0 1)) := by
  have hn := hW.1.n
  rw [show ((0 : Int32), (1 : Int64), (0 : Int32)) = (fun k => (nI (orN (shwB A) k), lN (10 ^ k), nI k)) 0 from rfl]
  refine lp_run (step := m_X6_byLife_L12 w) (fun k => (nI (orN (shwB A) k), lN (10 ^ k), nI k)) (A 0 1) ?_ ?_
  · intro k hk
    have hsl := shA_lt hW.1 (some k)
    unfold m_X6_byLife_L12
    dsimp +instances only
    rw [hM.n1, if_neg (nI_ge hk (by omega)), show m_X6_shownOn w (0 : Int32) (nI k) = some (nI (shA A (some k))) from shownOn_s (o := some k) hM hW (by omega) (fun t h => by cases h; omega), some_bind, ifp (show (nI (shA A (some k)) = (0 : Int32)) = (shA A (some k) = 0) from cast_eq (b := 0) (by omega) (by omega)), or0, b_two (by omega), nx_or, show (10 : Int64) = lN 10 from rfl, lN_mul, ← Nat.pow_succ, nI_1]
    show _ = some (Sum.inl (nI (if shwB A k then orN (shwB A) k ||| 2 ^ k else orN (shwB A) k), lN (10 ^ (k + 1)), nI (k + 1)))
    unfold shwB
    by_cases h : shA A (some k) = 0
    · rw [if_pos h, if_neg (by simp [h])]
    · rw [if_neg h, if_pos (by simp [h])]
  · unfold m_X6_byLife_L12
    dsimp +instances only
    rw [hM.n1, if_pos (nI_le (Nat.le_refl _) (by omega))]
theorem life_s {w : SV} {A : AS} (hM : RM w 0 A) (hW : WF A) {u : Nat} (hu : u ≤ 10) (b : Bool) (x3 : Int32) (hb : (if b then meU A u else alU A u) < 2 ^ 63) : m_X6_byLife w (nI u) (bI b) x3 = some (frL (if b then meU A u else alU A u) (10 ^ A 0 1) x3) := by
  have hn := hW.1.n
  have h10 := p10_5 (n := A 0 1) (by omega)
  have h25 : 2 ^ A 0 1 ≤ 32 := p2_le (b := 5) (by omega)
  have hMk : orN (shwB A) (A 0 1) < 32 := by
    have := orN_lt (shwB A) (A 0 1)
    omega
  unfold m_X6_byLife
  rw [mask_s hM hW, some_bind]
  unfold m_X6_byLife_K12
  have hl : lpC (m_X6_byLife_L61 w (nI u) (bI b) (nI (orN (shwB A) (A 0 1)), lN (10 ^ A 0 1), nI (A 0 1))) ((0 : Int64), (0 : Int32)) = some (lN (if b then meU A u else alU A u), nI (2 ^ A 0 1)) := by
    have hst : ∀ k, k < 2 ^ A 0 1 → ∀ z : Int64, m_X6_byLife_L61 w (nI u) (bI b) (nI (orN (shwB A) (A 0 1)), lN (10 ^ A 0 1), nI (A 0 1)) (z, nI k) = some (.inl (z + lN (wtN u k (A 0 1) * (if b then valA A k else (if orN (shwB A) (A 0 1) &&& k = orN (shwB A) (A 0 1) then 1 else 0))), nI (k + 1))) := by
      intro k hk z
      have l1 := valA_le hW k
      unfold m_X6_byLife_L61
      dsimp +instances only
      rw [hM.n1, b_two (s := A 0 1) (by omega), if_neg (nI_ge hk (by omega)), wt_s hM hW.1 hu (by omega), some_bind]
      unfold m_X6_byLife_K78
      dsimp +instances only
      rw [ifp (bI_0 _), show (1 : Int32).toInt64 = lN 1 from rfl, show (0 : Int32).toInt64 = lN 0 from rfl, lN_mul, lN_mul, show m_X6_valueOn w (0 : Int32) (nI k) = some (nI (valA A k)) from valueOn_s hM hW (by omega) (by omega), some_bind, nI_l (by omega), lN_mul, nI_1]
      cases b with
      | true => rw [if_neg (by simp)]; rfl
      | false =>
        rw [if_pos rfl]
        have hc := msk_chk (orN (shwB A) (A 0 1)) hMk k (by omega)
        by_cases h : orN (shwB A) (A 0 1) &&& k = orN (shwB A) (A 0 1)
        · rw [decide_eq_true h] at hc
          rw [if_pos (of_decide_eq_true hc), if_neg (show ¬ (false = true) by simp), if_pos h]
        · rw [decide_eq_false h] at hc
          rw [if_neg (of_decide_eq_false hc), if_neg (show ¬ (false = true) by simp), if_neg h]
    rw [show ((0 : Int64), (0 : Int32)) = (fun j => (lN (sumN (fun k => wtN u k (A 0 1) * (if b then valA A k else (if orN (shwB A) (A 0 1) &&& k = orN (shwB A) (A 0 1) then 1 else 0))) j), nI j)) 0 from rfl]
    rw [lp_run (step := m_X6_byLife_L61 w (nI u) (bI b) (nI (orN (shwB A) (A 0 1)), lN (10 ^ A 0 1), nI (A 0 1))) (fun j => (lN (sumN (fun k => wtN u k (A 0 1) * (if b then valA A k else (if orN (shwB A) (A 0 1) &&& k = orN (shwB A) (A 0 1) then 1 else 0))) j), nI j)) (2 ^ A 0 1) (r := (lN (sumN (fun k => wtN u k (A 0 1) * (if b then valA A k else (if orN (shwB A) (A 0 1) &&& k = orN (shwB A) (A 0 1) then 1 else 0))) (2 ^ A 0 1)), nI (2 ^ A 0 1)))]
    · cases b <;> rfl
    · intro k hk
      rw [hst k hk, lN_add]
      rfl
    · unfold m_X6_byLife_L61
      dsimp +instances only
      rw [hM.n1, b_two (s := A 0 1) (by omega), if_pos (nI_le (Nat.le_refl _) (by omega))]
  rw [hl, some_bind]
  unfold m_X6_byLife_K61
  dsimp +instances only
  rw [lowest_s hb (by omega) (by omega), some_bind]
theorem alU_lt {A : AS} (hW : WFb A) {u : Nat} (hu : u ≤ 10) : alU A u < 2 ^ 63 := by
  have hn := hW.n
  have h10 := p10_5 (n := A 0 1) (by omega)
  have h25 : 2 ^ A 0 1 ≤ 32 := p2_le (b := 5) (by omega)
  have := sumN_leN (f := fun m => wtN u m (A 0 1) * (if orN (shwB A) (A 0 1) &&& m = orN (shwB A) (A 0 1) then 1 else 0)) (b := 100000) (2 ^ A 0 1) (fun k _ => by
    have := wtN_le hu k (A 0 1)
    split <;> omega)
  have : 2 ^ A 0 1 * 100000 ≤ 32 * 100000 := Nat.mul_le_mul_right _ h25
  unfold alU
  omega
theorem meU_lt {A : AS} (hW : WF A) {u : Nat} (hu : u ≤ 10) : meU A u < 2 ^ 63 := by
  have hn := hW.1.n
  have h10 := p10_5 (n := A 0 1) (by omega)
  have h25 : 2 ^ A 0 1 ≤ 32 := p2_le (b := 5) (by omega)
  have := sumN_leN (f := fun m => wtN u m (A 0 1) * valA A m) (b := 100000 * 99) (2 ^ A 0 1) (fun k _ => Nat.mul_le_mul (Nat.le_trans (wtN_le hu k (A 0 1)) h10.2) (valA_le hW k))
  have : 2 ^ A 0 1 * (100000 * 99) ≤ 32 * (100000 * 99) := Nat.mul_le_mul_right _ h25
  unfold meU
  omega
theorem alive_b (v0 : SV) {v w : SV} {A : AS} (hR : RepC v A) (hM : RM w 0 A) (hW : WF A) (x1 x2 : Int32) : ∃ a, m_X5_alive v0 v x1 x2 = some a ∧ m_X6_alive w x1 x2 = some a := by
  have hn := hW.1.n
  have h10 := p10_5 (n := A 0 1) (by omega)
  unfold m_X6_alive
  rw [in_s (k := 11) (by decide) (by omega), some_bind, in_s (k := 2) (by decide) (by omega)]
  cases h1 : ix x1 11 with
  | none =>
    refine ⟨-1, ?_, rfl⟩
    unfold m_X5_alive
    rw [within_s (k := 11) (by decide) (by omega), some_bind, h1]; rfl
  | some u =>
    obtain ⟨rfl, hu⟩ := ix_some h1
    simp only [Option.isSome_some, show bI true = 1 from rfl, ne10, if_false, some_bind]
    cases h2 : ix x2 2 with
    | none =>
      refine ⟨-1, ?_, rfl⟩
      unfold m_X5_alive
      rw [within_s (k := 11) (by decide) (by omega), some_bind, h1, Option.isSome_some, if_neg (by decide), within_s (k := 2) (by decide) (by omega), some_bind, h2]; rfl
    | some y =>
      obtain ⟨rfl, hy⟩ := ix_some h2
      simp only [Option.isSome_some, show bI true = 1 from rfl, ne10, if_false]
      refine ⟨_, alive_s v0 hR hW hu hy, ?_⟩
      rw [show (0 : Int32) = bI false from rfl, life_s hM hW (by omega) false (nI y) (by rw [if_neg (by simp)]; exact alU_lt hW.1 (by omega)), some_bind, if_neg (by simp)]
      congr 1
      refine frL_eq (by omega) (prN_pos (by omega) _ _) ?_ _
      have hc := al_chk (A 0 1) (by omega) u hu (orN (shwB A) (A 0 1)) (orN_lt _ _)
      have e : ∀ a, prN a (fun k => (orN (shwB A) (A 0 1)).testBit k) (A 0 1) = prN a (shwB A) (A 0 1) := fun a => prN_congr _ (fun k hk => by rw [orN_tb]; simp [hk])
      rw [e, e] at hc
      exact hc
/-! mean -/
def mnE (n u : Nat) (g : Nat → Int) : Int := 100 * sumZ (fun m => (wtN u m n : Int) * g m) (2 ^ n) - (((10 ^ n * (10 * (10 - u)) : Nat) : Int) * sumZ (fun s => g (2 ^ s)) n + ((10 ^ n * ((10 - u) * (10 - u)) : Nat) : Int) * (g (2 ^ n - 1) - sumZ (fun s => g (2 ^ s)) n))
theorem mnE_add (n u : Nat) (g h : Nat → Int) : mnE n u (fun m => g m + h m) = mnE n u g + mnE n u h := by
  unfold mnE
  have e1 : sumZ (fun m => (wtN u m n : Int) * (g m + h m)) (2 ^ n) = sumZ (fun m => (wtN u m n : Int) * g m) (2 ^ n) + sumZ (fun m => (wtN u m n : Int) * h m) (2 ^ n) := by
    rw [← sumZ_add]
    exact sumZ_congr _ (fun m _ => Int.mul_add _ _ _)
  rw [e1, sumZ_add]
  have e2 : g (2 ^ n - 1) + h (2 ^ n - 1) - (sumZ (fun s => g (2 ^ s)) n + sumZ (fun s => h (2 ^ s)) n) = (g (2 ^ n - 1) - sumZ (fun s => g (2 ^ s)) n) + (h (2 ^ n - 1) - sumZ (fun s => h (2 ^ s)) n) := by omega
  rw [e2, Int.mul_add ((10 ^ n * (10 * (10 - u)) : Nat) : Int), Int.mul_add ((10 ^ n * ((10 - u) * (10 - u)) : Nat) : Int)]
  omega
theorem mnE_mul (n u : Nat) (a : Int) (g : Nat → Int) : mnE n u (fun m => a * g m) = a * mnE n u g := by
  unfold mnE
  have e1 : sumZ (fun m => (wtN u m n : Int) * (a * g m)) (2 ^ n) = a * sumZ (fun m => (wtN u m n : Int) * g m) (2 ^ n) := by
    rw [← sumZ_mul]
    exact sumZ_congr _ (fun m _ => Int.mul_left_comm _ _ _)
  rw [e1, sumZ_mul, ← Int.mul_sub, Int.mul_left_comm 100, Int.mul_left_comm ((10 ^ n * (10 * (10 - u)) : Nat) : Int), Int.mul_left_comm ((10 ^ n * ((10 - u) * (10 - u)) : Nat) : Int), ← Int.mul_add, ← Int.mul_sub]
theorem mn_chk : ∀ n, n < 6 → ∀ u, u < 11 → ∀ t, t < n → ∀ y, y < n → mnE n u (fun m => (ind2 t y m : Int)) = 0 := by decide +kernel
theorem sup_chk : ∀ n, n < 6 → ∀ t, t < n → ∀ y, y < n → 0 ≤ (ind2 t y (2 ^ n - 1) : Int) - sumZ (fun s => (ind2 t y (2 ^ s) : Int)) n := by decide +kernel
theorem val_sup {A : AS} (hW : WF A) : sumN (fun s => valA A (2 ^ s)) (A 0 1) ≤ valA A (2 ^ A 0 1 - 1) := by
  have hn := hW.1.n
  have := val_pos hW (fun g => g (2 ^ A 0 1 - 1) - sumZ (fun s => g (2 ^ s)) (A 0 1)) (fun g h => by dsimp only; rw [sumZ_add]; omega) (fun a g => by dsimp only; rw [sumZ_mul, Int.mul_sub]) (fun t u ht hu => sup_chk (A 0 1) (by omega) t ht u hu)
  dsimp only at this
  rw [← sumZ_N] at this
  omega
theorem mean_s (v0 : SV) {v : SV} {A : AS} (hR : RepC v A) (hW : WF A) {u w : Nat} (hu : u < 11) (hw : w < 2) : m_X5_mean v0 v (nI u) (nI w) = some (frL (10 * (10 - u) * sumN (fun s => valA A (2 ^ s)) (A 0 1) + (10 - u) * (10 - u) * (valA A (2 ^ A 0 1 - 1) - sumN (fun s => valA A (2 ^ s)) (A 0 1))) 100 (nI w)) := by
  have hn := hW.1.n
  have h25 := p2_5 (n := A 0 1) (by omega)
  have hs := val_sup hW
  have hl := valA_le hW (2 ^ A 0 1 - 1)
  unfold m_X5_mean
  rw [within_s (k := 11) (by decide) (by omega), some_bind, ix_nI hu (by omega), Option.isSome_some, if_neg (by decide), within_s (k := 2) (by decide) (by omega), some_bind, ix_nI hw (by omega), Option.isSome_some, if_neg (by decide)]
  rw [show ((0 : Int32), (0 : Int32)) = (fun k => (nI (sumN (fun s => valA A (2 ^ s)) k), nI k)) 0 from rfl]
  rw [lp_run (step := m_X5_mean_L28 v) (fun k => (nI (sumN (fun s => valA A (2 ^ s)) k), nI k)) (A 0 1) (r := (nI (sumN (fun s => valA A (2 ^ s)) (A 0 1)), nI (A 0 1)))]
  · rw [some_bind]
    unfold m_X5_mean_K28
    dsimp +instances only
    generalize hS : sumN (fun s => valA A (2 ^ s)) (A 0 1) = S at hs ⊢
    rw [everybody_s hR hW.1, some_bind, valueOf_s hR hW (by omega), some_bind, sub10 (by omega), pk_sub hs, nI_l (by omega), nI_l (by omega), show (10 : Int64) = lN 10 from rfl, lN_mul, lN_mul, lN_mul, lN_mul, lN_add, show (100 : Int64) = lN 100 from rfl, fraction_s ?_ (by omega) (by omega), some_bind]
    have h1 : 10 * (10 - u) * S ≤ 100 * 99 := Nat.mul_le_mul (by omega) (by omega)
    have h2 : (10 - u) * (10 - u) * (valA A (2 ^ A 0 1 - 1) - S) ≤ 10 * 10 * 99 := Nat.mul_le_mul (Nat.mul_le_mul (by omega) (by omega)) (by omega)
    omega
  · intro k hk
    have hk2 := p2_5 (n := k) (by omega)
    unfold m_X5_mean_L28
    dsimp +instances only
    rw [hR.n (j := 1) (by omega), if_neg (nI_ge hk (by omega)), b_two (by omega), valueOf_s hR hW (by omega), some_bind, nI_add, nI_1]
    rfl
  · unfold m_X5_mean_L28
    dsimp +instances only
    rw [hR.n (j := 1) (by omega), if_pos (nI_le (Nat.le_refl _) (by omega))]
theorem mean_b (v0 : SV) {v w : SV} {A : AS} (hR : RepC v A) (hM : RM w 0 A) (hW : WF A) (x1 x2 : Int32) : ∃ a, m_X5_mean v0 v x1 x2 = some a ∧ m_X6_mean w x1 x2 = some a := by
  have hn := hW.1.n
  have h10 := p10_5 (n := A 0 1) (by omega)
  unfold m_X6_mean
  rw [in_s (k := 11) (by decide) (by omega), some_bind, in_s (k := 2) (by decide) (by omega)]
  cases h1 : ix x1 11 with
  | none =>
    refine ⟨-1, ?_, rfl⟩
    unfold m_X5_mean
    rw [within_s (k := 11) (by decide) (by omega), some_bind, h1]; rfl
  | some u =>
    obtain ⟨rfl, hu⟩ := ix_some h1
    simp only [Option.isSome_some, show bI true = 1 from rfl, ne10, if_false, some_bind]
    cases h2 : ix x2 2 with
    | none =>
      refine ⟨-1, ?_, rfl⟩
      unfold m_X5_mean
      rw [within_s (k := 11) (by decide) (by omega), some_bind, h1, Option.isSome_some, if_neg (by decide), within_s (k := 2) (by decide) (by omega), some_bind, h2]; rfl
    | some y =>
      obtain ⟨rfl, hy⟩ := ix_some h2
      simp only [Option.isSome_some, show bI true = 1 from rfl, ne10, if_false]
      refine ⟨_, mean_s v0 hR hW hu hy, ?_⟩
      rw [show (1 : Int32) = bI true from rfl, life_s hM hW (by omega) true (nI y) (by rw [if_pos rfl]; exact meU_lt hW (by omega)), some_bind, if_pos rfl]
      congr 1
      refine frL_eq (by omega) (by omega) ?_ _
      have hE := val_zero hW (mnE (A 0 1) u) (mnE_add _ _) (mnE_mul _ _) (fun t z ht hz => mn_chk (A 0 1) (by omega) u hu t ht z hz)
      have hs := val_sup hW
      have hU : ((meU A u : Nat) : Int) = sumZ (fun m => (wtN u m (A 0 1) : Int) * (valA A m : Int)) (2 ^ A 0 1) := by
        unfold meU
        rw [sumZ_N]
        exact sumZ_congr _ (fun m _ => Int.natCast_mul _ _)
      unfold mnE at hE
      rw [← hU, ← sumZ_N] at hE
      dsimp only at hE
      generalize sumN (fun s => valA A (2 ^ s)) (A 0 1) = S at hE hs ⊢
      generalize valA A (2 ^ A 0 1 - 1) = V at hE hs ⊢
      have e1 : (V : Int) - (S : Int) = ((V - S : Nat) : Int) := by omega
      rw [e1, ← Int.natCast_mul, ← Int.natCast_mul] at hE
      generalize V - S = D at hE ⊢
      have e2 : (10 * (10 - u) * S + (10 - u) * (10 - u) * D) * 10 ^ A 0 1 = 10 ^ A 0 1 * (10 * (10 - u)) * S + 10 ^ A 0 1 * ((10 - u) * (10 - u)) * D := by
        rw [Nat.mul_comm, Nat.mul_add]
        simp only [Nat.mul_assoc]
      rw [e2]
      omega
