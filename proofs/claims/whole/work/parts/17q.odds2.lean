/-! ===== PURE: what is linear in VALUE ===== -/
def sumZ (f : Nat → Int) : Nat → Int
  | 0 => 0
  | n + 1 => sumZ f n + f n
theorem sumZ_congr {f g : Nat → Int} : ∀ n, (∀ k, k < n → f k = g k) → sumZ f n = sumZ g n := by
  intro n
  induction n with
  | zero => intro _; rfl
  | succ n ih => intro h; rw [sumZ, sumZ, ih (fun k hk => h k (by omega)), h n (by omega)]
theorem sumZ_add (f g : Nat → Int) : ∀ n, sumZ (fun k => f k + g k) n = sumZ f n + sumZ g n := by
  intro n
  induction n with
  | zero => rfl
  | succ n ih => rw [sumZ, sumZ, sumZ, ih]; omega
theorem sumZ_mul (a : Int) (f : Nat → Int) : ∀ n, sumZ (fun k => a * f k) n = a * sumZ f n := by
  intro n
  induction n with
  | zero => rw [sumZ, sumZ, Int.mul_zero]
  | succ n ih => rw [sumZ, sumZ, ih, Int.mul_add]
theorem sumZ_N (f : Nat → Nat) : ∀ n, ((sumN f n : Nat) : Int) = sumZ (fun k => (f k : Int)) n := by
  intro n
  induction n with
  | zero => rfl
  | succ n ih => rw [sumN, sumZ, ← ih]; omega
def ind2 (t u m : Nat) : Nat := if m.testBit t && m.testBit u then 1 else 0
theorem val_pos {A : AS} (hW : WF A) (Φ : (Nat → Int) → Int) (hadd : ∀ g h, Φ (fun m => g m + h m) = Φ g + Φ h) (hmul : ∀ (a : Int) g, Φ (fun m => a * g m) = a * Φ g) (h0 : ∀ t u, t < A 0 1 → u < A 0 1 → 0 ≤ Φ (fun m => (ind2 t u m : Int))) : 0 ≤ Φ (fun m => (valA A m : Int)) := by
  have hn := hW.1.n
  have hz : ∀ g : Nat → Int, (∀ m, g m = 0) → Φ g = 0 := by
    intro g hg
    have e : g = (fun m => (0 : Int) * g m) := by funext m; rw [Int.zero_mul]; exact hg m
    rw [e, hmul, Int.zero_mul]
  have h1 : ∀ k, k ≤ A 0 0 → 0 ≤ Φ (fun m => (sumN (v1A A m) k : Int)) := by
    intro k
    induction k with
    | zero => intro _; exact Int.le_of_eq (hz _ (fun m => rfl)).symm
    | succ k ih =>
      intro hk
      have e : (fun m => ((sumN (v1A A m) (k + 1) : Nat) : Int)) = (fun m => ((sumN (v1A A m) k : Nat) : Int) + ((v1A A m k : Nat) : Int)) := by funext m; rw [sumN]; omega
      rw [e, hadd]
      have := ih (by omega)
      have : 0 ≤ Φ (fun m => ((v1A A m k : Nat) : Int)) := by
        cases ht : tpA A k with
        | none =>
          rw [hz _ (fun m => by unfold v1A; rw [ht]; rfl)]
          omega
        | some t =>
          have htl := tpA_lt hW (by omega) ht
          have e2 : (fun m => ((v1A A m k : Nat) : Int)) = (fun m => ((A 6 k : Nat) : Int) * ((ind2 t t m : Nat) : Int)) := by
            funext m
            unfold v1A ind2
            rw [ht, Bool.and_self]
            show ((if m.testBit t = true then A 6 k else 0 : Nat) : Int) = _
            cases m.testBit t <;> simp
          rw [e2, hmul]
          exact Int.mul_nonneg (by omega) (h0 t t htl htl)
      omega
  have h2 : ∀ k, k ≤ A 0 2 → 0 ≤ Φ (fun m => (sumN (v2A A m) k : Int)) := by
    intro k
    induction k with
    | zero => intro _; exact Int.le_of_eq (hz _ (fun m => rfl)).symm
    | succ k ih =>
      intro hk
      have hb := hW.2.2 k (by omega)
      have e : (fun m => ((sumN (v2A A m) (k + 1) : Nat) : Int)) = (fun m => ((sumN (v2A A m) k : Nat) : Int) + ((v2A A m k : Nat) : Int)) := by funext m; rw [sumN]; omega
      rw [e, hadd]
      have := ih (by omega)
      have : 0 ≤ Φ (fun m => ((v2A A m k : Nat) : Int)) := by
        cases ht : tpA A (A 14 k) with
        | none =>
          rw [hz _ (fun m => by unfold v2A; rw [ht]; rfl)]
          omega
        | some t =>
          have htl := tpA_lt hW (by omega) ht
          cases hu : tpA A (A 15 k) with
          | none =>
            rw [hz _ (fun m => by unfold v2A; rw [ht, hu]; show ((if m.testBit t && (false && _) then _ else 0 : Nat) : Int) = 0; simp)]
            omega
          | some u =>
            have hul := tpA_lt hW (by omega) hu
            have e2 : (fun m => ((v2A A m k : Nat) : Int)) = (fun m => ((if slA A k then (if A 6 (A 15 k) < A 6 (A 14 k) then A 6 (A 15 k) else A 6 (A 14 k)) else 0 : Nat) : Int) * ((ind2 t u m : Nat) : Int)) := by
              funext m
              unfold v2A ind2
              rw [ht, hu]
              show ((if m.testBit t && (m.testBit u && slA A k) then _ else 0 : Nat) : Int) = _
              cases m.testBit t <;> cases m.testBit u <;> cases slA A k <;> simp
            rw [e2, hmul]
            exact Int.mul_nonneg (by omega) (h0 t u htl hul)
      omega
  have e : (fun m => ((valA A m : Nat) : Int)) = (fun m => ((sumN (v1A A m) (A 0 0) : Nat) : Int) + ((sumN (v2A A m) (A 0 2) : Nat) : Int)) := by funext m; unfold valA; omega
  rw [e, hadd]
  have := h1 (A 0 0) (Nat.le_refl _)
  have := h2 (A 0 2) (Nat.le_refl _)
  omega
theorem val_zero {A : AS} (hW : WF A) (Φ : (Nat → Int) → Int) (hadd : ∀ g h, Φ (fun m => g m + h m) = Φ g + Φ h) (hmul : ∀ (a : Int) g, Φ (fun m => a * g m) = a * Φ g) (h0 : ∀ t u, t < A 0 1 → u < A 0 1 → Φ (fun m => (ind2 t u m : Int)) = 0) : Φ (fun m => (valA A m : Int)) = 0 := by
  have h1 := val_pos hW Φ hadd hmul (fun t u ht hu => by rw [h0 t u ht hu]; omega)
  have h2 := val_pos hW (fun g => - Φ g) (fun g h => by rw [hadd]; omega) (fun a g => by rw [hmul]; rw [Int.mul_neg]) (fun t u ht hu => by rw [h0 t u ht hu]; omega)
  omega
theorem valA_le {A : AS} (hW : WF A) (m : Nat) : valA A m ≤ 99 := by
  have hn := hW.1.n
  have h1 := sumN_leN (f := v1A A m) (b := 9) (A 0 0) (fun k hk => by have := hW.1.b6 k (by omega); unfold v1A; split <;> omega)
  have h2 := sumN_leN (f := v2A A m) (b := 9) (A 0 2) (fun k hk => by
    have hb := hW.2.2 k hk
    have := hW.1.b6 (A 14 k) (by omega)
    have := hW.1.b6 (A 15 k) (by omega)
    unfold v2A
    split
    · split <;> omega
    · omega)
  have : A 0 0 * 9 ≤ 6 * 9 := Nat.mul_le_mul_right 9 (by omega)
  have : A 0 2 * 9 ≤ 5 * 9 := Nat.mul_le_mul_right 9 (by omega)
  unfold valA
  omega
theorem ind2_mono (t u m k : Nat) : ind2 t u m ≤ ind2 t u (m ||| k) := by
  unfold ind2
  rw [Nat.testBit_or, Nat.testBit_or]
  cases m.testBit t <;> cases m.testBit u <;> simp
theorem val_mono {A : AS} (hW : WF A) (m k : Nat) : valA A m ≤ valA A (m ||| k) := by
  have := val_pos hW (fun g => g (m ||| k) - g m) (fun g h => by dsimp only; omega) (fun a g => by dsimp only; rw [Int.mul_sub]) (fun t u _ _ => by have := ind2_mono t u m k; dsimp only; omega)
  dsimp only at this
  omega
/-! share -/
def ordN : Nat → Nat
  | 0 => 1
  | n + 1 => (n + 1) * ordN n
theorem orders_s {n : Nat} (hn : n < 2 ^ 30) : m_X6_orders (nI n) = some (nI (ordN n)) := by
  unfold m_X6_orders
  cases n with
  | zero =>
    rw [lp_done (step := m_X6_orders_L4 (nI 0)) (s := ((1 : Int32), (2 : Int32))) (r := ((1 : Int32), (2 : Int32))) (by
      unfold m_X6_orders_L4
      rw [if_pos (show nI 0 < (2 : Int32) from by decide)])]
    rfl
  | succ n =>
    rw [show ((1 : Int32), (2 : Int32)) = (fun k => (nI (ordN (k + 1)), nI (k + 2))) 0 from rfl]
    rw [lp_run (step := m_X6_orders_L4 (nI (n + 1))) (fun k => (nI (ordN (k + 1)), nI (k + 2))) n (r := (nI (ordN (n + 1)), nI (n + 2)))]
    · rfl
    · intro k hk
      unfold m_X6_orders_L4
      dsimp +instances only
      rw [if_neg (nI_nlt (by omega) (by omega)), pk_mul, nI_1, show ordN (k + 1 + 1) = ordN (k + 1) * (k + 2) from Nat.mul_comm _ _]
    · unfold m_X6_orders_L4
      dsimp +instances only
      rw [if_pos (nI_lt (by omega) (by omega))]
def shW (n m : Nat) : Nat := ordN (popN m) * ordN (n - popN m - 1)
def shU (n s : Nat) (g : Nat → Int) : Int := sumZ (fun m => if m.testBit s then 0 else (shW n m : Int) * (g (m ||| 2 ^ s) - g m)) (2 ^ n)
def shE (n s : Nat) (g : Nat → Int) : Int := 2 * shU n s g - (ordN n : Int) * (g (2 ^ s) + (g (2 ^ n - 1) - g (2 ^ n - 1 - 2 ^ s)))
theorem shU_add (n s : Nat) (g h : Nat → Int) : shU n s (fun m => g m + h m) = shU n s g + shU n s h := by
  unfold shU
  rw [← sumZ_add]
  refine sumZ_congr _ (fun m _ => ?_)
  dsimp only
  split
  · rfl
  · rw [← Int.mul_add]
    congr 1
    omega
theorem shU_mul (n s : Nat) (a : Int) (g : Nat → Int) : shU n s (fun m => a * g m) = a * shU n s g := by
  unfold shU
  rw [← sumZ_mul]
  refine sumZ_congr _ (fun m _ => ?_)
  dsimp only
  split
  · rw [Int.mul_zero]
  · rw [← Int.mul_sub, Int.mul_left_comm]
theorem shE_add (n s : Nat) (g h : Nat → Int) : shE n s (fun m => g m + h m) = shE n s g + shE n s h := by
  unfold shE
  rw [shU_add]
  have e : g (2 ^ s) + h (2 ^ s) + (g (2 ^ n - 1) + h (2 ^ n - 1) - (g (2 ^ n - 1 - 2 ^ s) + h (2 ^ n - 1 - 2 ^ s))) = (g (2 ^ s) + (g (2 ^ n - 1) - g (2 ^ n - 1 - 2 ^ s))) + (h (2 ^ s) + (h (2 ^ n - 1) - h (2 ^ n - 1 - 2 ^ s))) := by omega
  rw [e, Int.mul_add (ordN n : Int)]
  omega
theorem shE_mul (n s : Nat) (a : Int) (g : Nat → Int) : shE n s (fun m => a * g m) = a * shE n s g := by
  unfold shE
  rw [shU_mul]
  have e : a * g (2 ^ s) + (a * g (2 ^ n - 1) - a * g (2 ^ n - 1 - 2 ^ s)) = a * (g (2 ^ s) + (g (2 ^ n - 1) - g (2 ^ n - 1 - 2 ^ s))) := by rw [← Int.mul_sub, ← Int.mul_add]
  rw [e, Int.mul_sub, Int.mul_left_comm, Int.mul_left_comm (ordN n : Int)]
theorem sh_chk : ∀ n, n < 6 → ∀ s, s < n → ∀ t, t < n → ∀ u, u < n → shE n s (fun m => (ind2 t u m : Int)) = 0 := by decide +kernel
theorem pop_chk : ∀ n, n < 6 → ∀ s, s < n → ∀ m, m < 2 ^ n → m.testBit s = false → popN m + 1 ≤ n := by decide +kernel
theorem rest_chk : ∀ n, n < 6 → ∀ s, s < n → nI (2 ^ n - 1) &&& (((1 : Int32) <<< (nI s &&& 31)) ^^^ (-1 : Int32)) = nI (2 ^ n - 1 - 2 ^ s) := by decide +kernel
theorem all_chk : ∀ n, n < 6 → ∀ s, s < n → (2 ^ n - 1 - 2 ^ s) ||| 2 ^ s = 2 ^ n - 1 ∧ 2 ^ s < 2 ^ n := by decide +kernel
theorem or_lt : ∀ n, n < 6 → ∀ s, s < n → ∀ m, m < 2 ^ n → m ||| 2 ^ s < 2 ^ n := fun n _ s hs m hm => Nat.or_lt_two_pow hm (p2_lt hs)
theorem ord_chk : ∀ n, n < 6 → 1 ≤ ordN n ∧ ordN n ≤ 120 := by decide +kernel
def shR (A : AS) (x1 x2 : Int32) : Int64 := match ix x1 (A 0 1) with
  | none => -1
  | some s => match ix x2 2 with
    | none => -1
    | some w => frL (valA A (2 ^ s) + (valA A (2 ^ A 0 1 - 1) - valA A (2 ^ A 0 1 - 1 - 2 ^ s))) 2 (nI w)
theorem share_s (v0 : SV) {v : SV} {A : AS} (hR : RepC v A) (hW : WF A) (x1 x2 : Int32) : m_X5_share v0 v x1 x2 = some (shR A x1 x2) := by
  have hn := hW.1.n
  have h25 := p2_5 (n := A 0 1) (by omega)
  unfold m_X5_share shR
  rw [hasSitter_s hR hW.1, some_bind]
  cases h1 : ix x1 (A 0 1) with
  | none => rfl
  | some s =>
    obtain ⟨rfl, hs⟩ := ix_some h1
    simp only [Option.isSome_some, if_true, ne10, if_false]
    rw [within_s (k := 2) (by decide) (by omega), some_bind]
    cases h2 : ix x2 2 with
    | none => rfl
    | some w =>
      obtain ⟨rfl, hw⟩ := ix_some h2
      simp only [Option.isSome_some, show bI true = 1 from rfl, ne10, if_false]
      have ha := all_chk (A 0 1) (by omega) s hs
      have hm := val_mono hW (2 ^ A 0 1 - 1 - 2 ^ s) (2 ^ s)
      rw [ha.1] at hm
      have l1 := valA_le hW (2 ^ s)
      have l2 := valA_le hW (2 ^ A 0 1 - 1)
      have b1 : 2 ^ A 0 1 - 1 - 2 ^ s < 2 ^ 31 := Nat.lt_of_le_of_lt (Nat.le_trans (Nat.sub_le _ _) (Nat.sub_le _ _)) (by omega)
      have b2 : 2 ^ s < 2 ^ 31 := Nat.lt_trans ha.2 (by omega)
      rw [everybody_s hR hW.1]
      simp only [some_bind]
      rw [rest_chk (A 0 1) (by omega) s hs, b_two (by omega), valueOf_s hR hW b2, some_bind, valueOf_s hR hW (by omega), some_bind, valueOf_s hR hW b1, some_bind, pk_sub hm, nI_add, nI_l (by omega), show (2 : Int64) = lN 2 from rfl, fraction_s (by omega) (by omega) (by omega), some_bind]
theorem share6_s {w : SV} {A : AS} (hM : RM w 0 A) (hW : WF A) (x1 x2 : Int32) : m_X6_share w x1 x2 = some (shR A x1 x2) := by
  have hn := hW.1.n
  have h25 := p2_5 (n := A 0 1) (by omega)
  unfold m_X6_share shR
  rw [isSitter_s hM hW.1, some_bind]
  cases h1 : ix x1 (A 0 1) with
  | none => rfl
  | some s =>
    obtain ⟨rfl, hs⟩ := ix_some h1
    simp only [Option.isSome_some, show bI true = 1 from rfl, ne10, if_false]
    rw [in_s (k := 2) (by decide) (by omega), some_bind]
    cases h2 : ix x2 2 with
    | none => rfl
    | some u =>
      obtain ⟨rfl, hu⟩ := ix_some h2
      simp only [Option.isSome_some, show bI true = 1 from rfl, ne10, if_false]
      have hord := ord_chk (A 0 1) (by omega)
      have hl : lpC (m_X6_share_L27 w (nI s)) ((0 : Int64), (0 : Int32)) = some (lN (sumN (fun m => if m.testBit s then 0 else shW (A 0 1) m * (valA A (m ||| 2 ^ s) - valA A m)) (2 ^ A 0 1)), nI (2 ^ A 0 1)) := by
        rw [show ((0 : Int64), (0 : Int32)) = (fun k => (lN (sumN (fun m => if m.testBit s then 0 else shW (A 0 1) m * (valA A (m ||| 2 ^ s) - valA A m)) k), nI k)) 0 from rfl]
        refine lp_run (step := m_X6_share_L27 w (nI s)) (fun k => (lN (sumN (fun m => if m.testBit s then 0 else shW (A 0 1) m * (valA A (m ||| 2 ^ s) - valA A m)) k), nI k)) (2 ^ A 0 1) ?_ ?_
        · intro k hk
          have hmo := val_mono hW k (2 ^ s)
          have l1 := valA_le hW (k ||| 2 ^ s)
          have hor := or_lt (A 0 1) (by omega) s hs k hk
          unfold m_X6_share_L27
          dsimp +instances only
          rw [hM.n1, b_two (s := A 0 1) (by omega), if_neg (nI_ge hk (by omega)), ifp (b_t0 (m := k) (s := s) (by omega) (by omega))]
          show _ = some (Sum.inl (lN (sumN _ k + (if k.testBit s then 0 else shW (A 0 1) k * (valA A (k ||| 2 ^ s) - valA A k))), nI (k + 1)))
          cases hb : k.testBit s with
          | true => rw [if_neg (by simp), if_pos rfl, Nat.add_zero, nI_1]
          | false =>
            have hp := pop_chk (A 0 1) (by omega) s hs k hk hb
            have o1 := ord_chk (popN k) (by omega)
            have o2 := ord_chk (A 0 1 - popN k - 1) (by omega)
            rw [if_pos rfl, if_neg (by simp), bitsOf_s (by omega), some_bind, b_two (by omega), nx_or, li_0, valueOn_s hM hW (by omega) (by omega), some_bind, valueOn_s hM hW (by omega) (by omega), some_bind, orders_s (by omega), some_bind, pk_sub (by omega), show (1 : Int32) = nI 1 from rfl, pk_sub (by omega), orders_s (by omega), some_bind, pk_sub hmo, nI_l (by omega), nI_l (by omega), nI_l (by omega), lN_mul, lN_mul, lN_add, nI_add]
            congr 5
            unfold shW
            rw [Nat.mul_assoc, Nat.mul_comm]
        · unfold m_X6_share_L27
          dsimp +instances only
          rw [hM.n1, b_two (by omega), if_pos (nI_le (Nat.le_refl _) (by omega))]
      have hE := val_zero hW (shE (A 0 1) s) (shE_add _ _) (shE_mul _ _) (fun t u ht hu => sh_chk (A 0 1) (by omega) s hs t ht u hu)
      have hUN : ((sumN (fun m => if m.testBit s then 0 else shW (A 0 1) m * (valA A (m ||| 2 ^ s) - valA A m)) (2 ^ A 0 1) : Nat) : Int) = shU (A 0 1) s (fun m => (valA A m : Int)) := by
        rw [sumZ_N]
        unfold shU
        refine sumZ_congr _ (fun m _ => ?_)
        have hmo := val_mono hW m (2 ^ s)
        split
        · rfl
        · rw [Int.natCast_mul]
          congr 1
          dsimp only
          omega
      have hbd : sumN (fun m => if m.testBit s then 0 else shW (A 0 1) m * (valA A (m ||| 2 ^ s) - valA A m)) (2 ^ A 0 1) < 2 ^ 63 := by
        have := sumN_leN (f := fun m => if m.testBit s then 0 else shW (A 0 1) m * (valA A (m ||| 2 ^ s) - valA A m)) (b := 120 * 120 * 99) (2 ^ A 0 1) (fun k hk => by
          split
          · omega
          · rename_i hb
            have hp := pop_chk (A 0 1) (by omega) s hs k hk (by simpa using hb)
            have o1 := ord_chk (popN k) (by omega)
            have o2 := ord_chk (A 0 1 - popN k - 1) (by omega)
            have l1 := valA_le hW (k ||| 2 ^ s)
            exact Nat.mul_le_mul (Nat.mul_le_mul o1.2 o2.2) (by omega))
        have : 2 ^ A 0 1 * (120 * 120 * 99) ≤ 64 * (120 * 120 * 99) := Nat.mul_le_mul_right _ h25.2
        omega
      rw [hl, some_bind]
      unfold m_X6_share_K27
      dsimp +instances only
      rw [hM.n1, orders_s (by omega), some_bind, nI_l (by omega), lowest_s hbd (by omega) (by omega), some_bind]
      congr 1
      refine frL_eq (by omega) (by omega) ?_ _
      have hal := all_chk (A 0 1) (by omega) s hs
      have hmo := val_mono hW (2 ^ A 0 1 - 1 - 2 ^ s) (2 ^ s)
      rw [hal.1] at hmo
      unfold shE at hE
      rw [← hUN] at hE
      generalize sumN (fun m => if m.testBit s then 0 else shW (A 0 1) m * (valA A (m ||| 2 ^ s) - valA A m)) (2 ^ A 0 1) = U at hE ⊢
      have e : (valA A (2 ^ s) : Int) + ((valA A (2 ^ A 0 1 - 1) : Int) - (valA A (2 ^ A 0 1 - 1 - 2 ^ s) : Int)) = ((valA A (2 ^ s) + (valA A (2 ^ A 0 1 - 1) - valA A (2 ^ A 0 1 - 1 - 2 ^ s)) : Nat) : Int) := by omega
      rw [e, ← Int.natCast_mul] at hE
      rw [Nat.mul_comm (valA A (2 ^ s) + _)]
      omega
