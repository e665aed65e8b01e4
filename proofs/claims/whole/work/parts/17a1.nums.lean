/-! ===== PURE: loops with invariants, bits, bounds ===== -/
/-- a loop of N turns at most, with an invariant; each turn goes on, or ends with P -/
theorem lp_inv {σ ρ : Type} {step : σ → Option (σ ⊕ ρ)} (I : Nat → σ → Prop) (P : ρ → Prop) (N : Nat) (hs : ∀ k s, k < N → I k s → (∃ s', step s = some (.inl s') ∧ I (k + 1) s') ∨ (∃ r, step s = some (.inr r) ∧ P r)) (he : ∀ s, I N s → ∃ r, step s = some (.inr r) ∧ P r) {s0 : σ} (h0 : I 0 s0) : ∃ r, lpC step s0 = some r ∧ P r := by
  have h : ∀ j k, k + j = N → ∀ s, I k s → ∃ r, lpC step s = some r ∧ P r := by
    intro j
    induction j with
    | zero =>
      intro k hk s hI
      have hk : k = N := by omega
      subst hk
      obtain ⟨r, h1, h2⟩ := he s hI
      exact ⟨r, lp_done h1, h2⟩
    | succ j ih =>
      intro k hk s hI
      rcases hs k s (by omega) hI with ⟨s', h1, h2⟩ | ⟨r, h1, h2⟩
      · obtain ⟨r, h3, h4⟩ := ih (k + 1) (by omega) s' h2
        exact ⟨r, by rw [lp_next h1]; exact h3, h4⟩
      · exact ⟨r, lp_done h1, h2⟩
  exact h N 0 (by omega) s0 h0
/-- a loop with a measure -/
theorem lp_wf {σ ρ : Type} {step : σ → Option (σ ⊕ ρ)} (I : σ → Prop) (P : ρ → Prop) (m : σ → Nat) (hs : ∀ s, I s → (∃ s', step s = some (.inl s') ∧ I s' ∧ m s' < m s) ∨ (∃ r, step s = some (.inr r) ∧ P r)) {s0 : σ} (h0 : I s0) : ∃ r, lpC step s0 = some r ∧ P r := by
  have h : ∀ n s, m s ≤ n → I s → ∃ r, lpC step s = some r ∧ P r := by
    intro n
    induction n with
    | zero =>
      intro s hn hI
      rcases hs s hI with ⟨s', h1, h2, h3⟩ | ⟨r, h1, h2⟩
      · omega
      · exact ⟨r, lp_done h1, h2⟩
    | succ n ih =>
      intro s hn hI
      rcases hs s hI with ⟨s', h1, h2, h3⟩ | ⟨r, h1, h2⟩
      · obtain ⟨r, h4, h5⟩ := ih s' (by omega) h2
        exact ⟨r, by rw [lp_next h1]; exact h4, h5⟩
      · exact ⟨r, lp_done h1, h2⟩
  exact h (m s0) s0 (Nat.le_refl _) h0
def firstN (g : Nat → Bool) : Nat → Option Nat
  | 0 => none
  | n + 1 => match firstN g n with
    | some k => some k
    | none => if g n then some n else none
theorem firstN_none {g : Nat → Bool} : ∀ {n : Nat}, firstN g n = none → ∀ k, k < n → g k = false := by
  intro n
  induction n with
  | zero => intro _ k hk; omega
  | succ n ih =>
    intro h k hk
    simp only [firstN] at h
    cases hf : firstN g n with
    | some j => rw [hf] at h; cases h
    | none =>
      rw [hf] at h
      by_cases hg : g n = true
      · simp only [hg, if_true] at h; cases h
      · by_cases hkn : k = n
        · subst hkn; simpa using hg
        · exact ih hf k (by omega)
theorem firstN_some {g : Nat → Bool} : ∀ {n j : Nat}, firstN g n = some j → j < n ∧ g j = true ∧ ∀ k, k < j → g k = false := by
  intro n
  induction n with
  | zero => intro j h; cases h
  | succ n ih =>
    intro j h
    simp only [firstN] at h
    cases hf : firstN g n with
    | some i =>
      rw [hf] at h
      cases h
      obtain ⟨h1, h2, h3⟩ := ih hf
      exact ⟨by omega, h2, h3⟩
    | none =>
      rw [hf] at h
      by_cases hg : g n = true
      · simp only [hg, if_true] at h
        cases h
        exact ⟨by omega, hg, fun k hk => firstN_none hf k hk⟩
      · simp only [hg] at h
        cases h
theorem firstN_of {g : Nat → Bool} {n j : Nat} (h1 : j < n) (h2 : g j = true) (h3 : ∀ k, k < j → g k = false) : firstN g n = some j := by
  cases hf : firstN g n with
  | none => rw [firstN_none hf j h1] at h2; cases h2
  | some i =>
    obtain ⟨a1, a2, a3⟩ := firstN_some hf
    by_cases hij : i < j
    · rw [h3 i hij] at a2; cases a2
    · by_cases hji : j < i
      · rw [a3 j hji] at h2; cases h2
      · rw [show i = j by omega]
theorem firstN_congr {g h : Nat → Bool} : ∀ n, (∀ k, k < n → g k = h k) → firstN g n = firstN h n := by
  intro n
  induction n with
  | zero => intro _; rfl
  | succ n ih => intro e; simp only [firstN]; rw [ih (fun k hk => e k (by omega)), e n (by omega)]
/-- a loop that ends at the first k that is found -/
theorem lp_first {σ ρ : Type} {step : σ → Option (σ ⊕ ρ)} (f : Nat → σ) (g : Nat → Bool) (rb : Nat → ρ) (re : ρ) (N : Nat) (hs : ∀ k, k < N → g k = false → step (f k) = some (.inl (f (k + 1)))) (hb : ∀ k, k < N → g k = true → step (f k) = some (.inr (rb k))) (he : step (f N) = some (.inr re)) : lpC step (f 0) = some (match firstN g N with | some k => rb k | none => re) := by
  cases hf : firstN g N with
  | none => exact lp_run f N (fun k hk => hs k hk (firstN_none hf k hk)) he
  | some j =>
    obtain ⟨h1, h2, h3⟩ := firstN_some hf
    exact lp_run f j (fun k hk => hs k (by omega) (h3 k hk)) (hb j h1 h2)
def allN (g : Nat → Bool) : Nat → Bool
  | 0 => true
  | n + 1 => allN g n && g n
def anyN (g : Nat → Bool) : Nat → Bool
  | 0 => false
  | n + 1 => anyN g n || g n
theorem allN_iff {g : Nat → Bool} : ∀ n, (allN g n = true ↔ ∀ k, k < n → g k = true) := by
  intro n
  induction n with
  | zero => exact ⟨fun _ k hk => absurd hk (Nat.not_lt_zero k), fun _ => rfl⟩
  | succ n ih =>
    simp only [allN, Bool.and_eq_true, ih]
    constructor
    · intro ⟨h1, h2⟩ k hk
      by_cases hkn : k = n
      · subst hkn; exact h2
      · exact h1 k (by omega)
    · intro h; exact ⟨fun k hk => h k (by omega), h n (by omega)⟩
theorem anyN_iff {g : Nat → Bool} : ∀ n, (anyN g n = true ↔ ∃ k, k < n ∧ g k = true) := by
  intro n
  induction n with
  | zero => exact ⟨fun h => (by cases h), fun ⟨k, hk, _⟩ => absurd hk (Nat.not_lt_zero k)⟩
  | succ n ih =>
    simp only [anyN, Bool.or_eq_true, ih]
    constructor
    · rintro (⟨k, hk, h⟩ | h)
      · exact ⟨k, by omega, h⟩
      · exact ⟨n, by omega, h⟩
    · rintro ⟨k, hk, h⟩
      by_cases hkn : k = n
      · subst hkn; exact .inr h
      · exact .inl ⟨k, by omega, h⟩
theorem allN_first (g : Nat → Bool) (n : Nat) : allN g n = (firstN (fun k => ! g k) n).isNone := by
  cases h : firstN (fun k => ! g k) n with
  | none =>
    rw [Option.isNone_none]
    exact (allN_iff n).mpr (fun k hk => by have := firstN_none h k hk; simpa using this)
  | some j =>
    obtain ⟨h1, h2, -⟩ := firstN_some h
    rw [Option.isNone_some]
    cases ha : allN g n with
    | false => rfl
    | true => have := (allN_iff n).mp ha j h1; simp [this] at h2
def orN (g : Nat → Bool) : Nat → Nat
  | 0 => 0
  | n + 1 => if g n then orN g n ||| 2 ^ n else orN g n
theorem orN_tb (g : Nat → Bool) : ∀ n i, (orN g n).testBit i = (decide (i < n) && g i) := by
  intro n
  induction n with
  | zero => intro i; simp [orN]
  | succ n ih =>
    intro i
    simp only [orN]
    by_cases hg : g n = true
    · rw [if_pos hg, Nat.testBit_or, ih, Nat.testBit_two_pow]
      by_cases hi : n = i
      · subst hi; simp [hg]
      · by_cases h2 : i < n
        · have : i < n + 1 := by omega
          simp [h2, this, hi]
        · have : ¬ i < n + 1 := by omega
          simp [h2, this, hi]
    · rw [if_neg hg, ih]
      by_cases hi : n = i
      · subst hi; simp [hg]
      · by_cases h2 : i < n
        · have : i < n + 1 := by omega
          simp [h2, this]
        · have : ¬ i < n + 1 := by omega
          simp [h2, this]
theorem orN_lt (g : Nat → Bool) : ∀ n, orN g n < 2 ^ n := by
  intro n
  induction n with
  | zero => exact Nat.one_pos
  | succ n ih =>
    simp only [orN]
    have h2 : 2 ^ (n + 1) = 2 ^ n + 2 ^ n := by rw [Nat.pow_succ]; omega
    split
    · exact Nat.or_lt_two_pow (by omega) (by have := Nat.two_pow_pos n; omega)
    · omega
theorem orN_congr {g h : Nat → Bool} : ∀ n, (∀ k, k < n → g k = h k) → orN g n = orN h n := by
  intro n
  induction n with
  | zero => intro _; rfl
  | succ n ih => intro e; simp only [orN]; rw [ih (fun k hk => e k (by omega)), e n (by omega)]
theorem p2_lt {a b : Nat} (h : a < b) : 2 ^ a < 2 ^ b := Nat.pow_lt_pow_right (by decide) h
theorem p2_le {a b : Nat} (h : a ≤ b) : 2 ^ a ≤ 2 ^ b := Nat.pow_le_pow_right (by decide) h
theorem s_l : ∀ n, n < 32 → ((nI n &&& 31).toBitVec.smod 32).toNat = n := by decide +kernel
theorem nx_and (a b : Nat) : nI a &&& nI b = nI (a &&& b) := by
  apply Int32.toBitVec_inj.1
  show BitVec.ofNat 32 a &&& BitVec.ofNat 32 b = BitVec.ofNat 32 (a &&& b)
  apply BitVec.eq_of_getLsbD_eq
  intro i hi
  simp [BitVec.getLsbD_ofNat, hi]
theorem nx_or (a b : Nat) : nI a ||| nI b = nI (a ||| b) := by
  apply Int32.toBitVec_inj.1
  show BitVec.ofNat 32 a ||| BitVec.ofNat 32 b = BitVec.ofNat 32 (a ||| b)
  apply BitVec.eq_of_getLsbD_eq
  intro i hi
  simp [BitVec.getLsbD_ofNat, hi]
theorem b_two {s : Nat} (hs : s < 32) : (1 : Int32) <<< (nI s &&& 31) = nI (2 ^ s) := by
  have h := pk_shlN (n := 1) (nI s &&& 31) s (s_l s hs) (by rw [Nat.one_mul]; exact p2_lt hs)
  rw [Nat.one_mul] at h
  exact h
theorem b_div {m s : Nat} (hm : m < 2 ^ 31) (hs : s < 32) : nI m >>> (nI s &&& 31) = nI (m / 2 ^ s) := pk_shrN hm (nI s &&& 31) s (s_l s hs)
theorem b_and1 {m : Nat} (hm : m < 2 ^ 31) : nI m &&& (1 : Int32) = nI (m % 2) := pk_andN (by omega) 1 (by decide)
theorem b_bit {m s : Nat} (hm : m < 2 ^ 31) (hs : s < 32) : (nI m >>> (nI s &&& 31)) &&& (1 : Int32) = nI (if m.testBit s then 1 else 0) := by
  rw [b_div hm hs, b_and1 (by have := Nat.div_le_self m (2 ^ s); omega)]
  congr 1
  rw [Nat.testBit_eq_decide_div_mod_eq]
  by_cases h : m / 2 ^ s % 2 = 1
  · simp [h]
  · simp [h]; omega
theorem b_t1 {m s : Nat} (hm : m < 2 ^ 31) (hs : s < 32) : ((nI m >>> (nI s &&& 31)) &&& (1 : Int32) = (1 : Int32)) = (m.testBit s = true) := by
  rw [b_bit hm hs]
  cases m.testBit s
  · exact propext ⟨fun h => absurd h (by decide), fun h => (by cases h)⟩
  · exact propext ⟨fun _ => rfl, fun _ => rfl⟩
theorem b_t0 {m s : Nat} (hm : m < 2 ^ 31) (hs : s < 32) : ((nI m >>> (nI s &&& 31)) &&& (1 : Int32) = (0 : Int32)) = (m.testBit s = false) := by
  rw [b_bit hm hs]
  cases m.testBit s
  · exact propext ⟨fun _ => rfl, fun _ => rfl⟩
  · exact propext ⟨fun h => absurd h (by decide), fun h => (by cases h)⟩
theorem b_ev {n : Nat} (hn : n < 31) : ((1 : Int32) <<< (nI n &&& 31)) - (1 : Int32) = nI (2 ^ n - 1) := by
  rw [b_two (by omega), show (1 : Int32) = nI 1 from rfl, pk_sub (Nat.two_pow_pos n)]
theorem ifp {α : Type} {c d : Prop} (h : c = d) {i : Decidable c} [j : Decidable d] {a b : α} : (@ite α c i a b) = (@ite α d j a b) := by
  subst h
  rw [Subsingleton.elim i j]
def bI (b : Bool) : Int32 := if b then 1 else 0
theorem bI_0 (b : Bool) : (bI b = 0) = (b = false) := by
  cases b
  · exact propext ⟨fun _ => rfl, fun _ => rfl⟩
  · exact propext ⟨fun h => absurd h (by decide), fun h => (by cases h)⟩
theorem bI_1 (b : Bool) : (bI b = 1) = (b = true) := by
  cases b
  · exact propext ⟨fun h => absurd h (by decide), fun h => (by cases h)⟩
  · exact propext ⟨fun _ => rfl, fun _ => rfl⟩
theorem nz_bI (b : Bool) : nzB (bI b) = true := by cases b <;> decide
theorem some_if {α : Type} (c : Prop) [Decidable c] (a b : α) : (if c then some a else some b) = some (if c then a else b) := by split <;> rfl
theorem some_bI (b : Bool) : (if b = true then some (1 : Int32) else some 0) = some (bI b) := by cases b <;> rfl
theorem some_bIf (b : Bool) : (if b = false then some (0 : Int32) else some 1) = some (bI b) := by cases b <;> rfl
/-- a number that is told: is it one of n? -/
def ix (x : Int32) (n : Nat) : Option Nat := if 0 ≤ x.toInt ∧ x.toInt < (n : Int) then some x.toInt.toNat else none
theorem ix_some {x : Int32} {n p : Nat} (h : ix x n = some p) : x = nI p ∧ p < n := by
  unfold ix at h
  split at h
  · rename_i hc
    cases h
    refine ⟨?_, by omega⟩
    apply Int32.toInt_inj.mp
    have : x.toInt < 2 ^ 31 := Int32.toInt_lt x
    rw [nI_toInt (by omega)]
    omega
  · cases h
theorem ix_none {x : Int32} {n : Nat} (h : ix x n = none) (hn : n < 2 ^ 31) : x < 0 ∨ nI n ≤ x := by
  unfold ix at h
  split at h
  · cases h
  · rename_i hc
    rw [Int32.lt_iff_toInt_lt, Int32.le_iff_toInt_le, nI_toInt hn]
    have : (0 : Int32).toInt = 0 := rfl
    omega
theorem ix_nI {p n : Nat} (h : p < n) (hn : n < 2 ^ 31) : ix (nI p) n = some p := by
  unfold ix
  rw [nI_toInt (by omega), if_pos (by omega)]
  simp
/-! bounds asked of a number -/
theorem within_s {x K : Int32} {k : Nat} (hK : K = nI k - 1) (hk : k < 2 ^ 31) : m_X5_within x 0 K = some (bI (ix x k).isSome) := by
  unfold m_X5_within
  have e : (nI k - 1).toInt = (k : Int) - 1 := by
    cases k with
    | zero => decide
    | succ k => rw [nI_pred, nI_toInt (by omega)]; omega
  cases hi : ix x k with
  | some p =>
    obtain ⟨rfl, hp⟩ := ix_some hi
    rw [if_neg (nI_pos (by omega)), if_neg]
    · rfl
    · rw [hK, Int32.lt_iff_toInt_lt, e, nI_toInt (by omega)]; omega
  | none =>
    rcases ix_none hi hk with h | h
    · rw [if_pos h]; rfl
    · by_cases h1 : x < 0
      · rw [if_pos h1]; rfl
      · rw [if_neg h1, if_pos]
        · rfl
        · rw [hK, Int32.lt_iff_toInt_lt, e]
          rw [Int32.le_iff_toInt_le, nI_toInt hk] at h
          omega
theorem in_s {x : Int32} {K : Int64} {k : Nat} (hK : K.toInt = (k : Int) - 1) (hk : k < 2 ^ 31) : m_X6_in x.toInt64 0 K = some (bI (ix x k).isSome) := by
  unfold m_X6_in
  have h0 : (0 : Int64).toInt = 0 := rfl
  have hx : x.toInt64.toInt = x.toInt := Int32.toInt_toInt64 x
  cases hi : ix x k with
  | some p =>
    obtain ⟨rfl, hp⟩ := ix_some hi
    rw [nI_toInt (by omega)] at hx
    rw [if_neg, if_neg]
    · rfl
    · rw [lg_cmp_gt, Int64.lt_iff_toInt_lt]; omega
    · rw [lg_cmp_lt, Int64.lt_iff_toInt_lt]; omega
  | none =>
    rcases ix_none hi hk with h | h
    · rw [if_pos]
      · rfl
      · rw [lg_cmp_lt, Int64.lt_iff_toInt_lt]
        rw [Int32.lt_iff_toInt_lt] at h
        have : (0 : Int32).toInt = 0 := rfl
        omega
    · rw [Int32.le_iff_toInt_le, nI_toInt hk] at h
      rw [if_neg, if_pos]
      · rfl
      · rw [lg_cmp_gt, Int64.lt_iff_toInt_lt]; omega
      · rw [lg_cmp_lt, Int64.lt_iff_toInt_lt]; omega
theorem pred_64 {k : Nat} (hk : k < 2 ^ 31) : (nI k - 1).toInt64.toInt = (k : Int) - 1 := by
  rw [Int32.toInt_toInt64]
  cases k with
  | zero => decide
  | succ k => rw [nI_pred, nI_toInt (by omega)]; omega
theorem nI_64 {k : Nat} (hk : k < 2 ^ 31) : (nI k).toInt64.toInt = (k : Int) := by rw [Int32.toInt_toInt64, nI_toInt hk]
theorem ix_or {x : Int32} {n : Nat} (hn : n < 2 ^ 31) : (∃ p, x = nI p ∧ p < n ∧ ix x n = some p) ∨ ix x n = none := by
  cases h : ix x n with
  | none => exact .inr rfl
  | some p => exact .inl ⟨p, (ix_some h).1, (ix_some h).2, rfl⟩
theorem ix_c {x : Int32} {n p : Nat} (hn : n < 2 ^ 31) (h : ix x n = none) (hp : p < n) : ¬ x = nI p := by
  intro e
  rw [e, ix_nI hp hn] at h
  cases h
theorem absI {a b : Nat} (ha : a < 2 ^ 30) (hb : b < 2 ^ 30) : (if 0 ≤ nI a - nI b then nI a - nI b else (0 : Int32) - (nI a - nI b)) = nI (if b ≤ a then a - b else b - a) := by
  by_cases h : b ≤ a
  · rw [pk_sub h, if_pos (nI_pos' (by omega)), if_pos h]
  · have h2 := pk_sneg hb (a := a) (by omega)
    rw [if_neg h, if_neg]
    · rw [Int32.zero_sub, Int32.neg_sub, pk_sub (by omega)]
    · intro h3
      rw [Int32.le_iff_toInt_le] at h3
      rw [Int32.lt_iff_toInt_lt] at h2
      omega
theorem nI_ex (x : Int32) : ∃ n, n < 2 ^ 32 ∧ x = nI n := by
  refine ⟨x.toUInt32.toNat, x.toUInt32.toNat_lt, ?_⟩
  apply Int32.toBitVec_inj.1
  show x.toBitVec = BitVec.ofNat 32 x.toBitVec.toNat
  simp
