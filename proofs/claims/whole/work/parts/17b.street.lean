/-! ===== PURE: the street's numbers as Nat; what its methods answer ===== -/
abbrev AS : Type := Nat → Nat → Nat
def ltA (A : AS) : Option Nat := if A 0 5 = 0 then none else some (A 0 5 - 1)
def RepC (v : SV) (A : AS) : Prop := (∀ j, j < 5 → v 0 j = nI (A 0 j)) ∧ v 0 5 = oI (ltA A) ∧ (∀ i, i < 6 → v 6 i = nI (A 6 i)) ∧ (∀ i, i < 6 → v 7 i = nI (A 7 i)) ∧ (∀ i, i < 24 → v 8 i = nI (A 8 i)) ∧ (∀ i, i < 5 → v 9 i = nI (A 9 i)) ∧ (∀ i, i < 5 → v 10 i = nI (A 10 i)) ∧ (∀ i, i < 5 → v 11 i = nI (A 11 i)) ∧ (∀ i, i < 5 → v 12 i = nI (A 12 i)) ∧ (∀ i, i < 5 → v 13 i = nI (A 13 i)) ∧ (∀ i, i < 5 → v 14 i = nI (A 14 i)) ∧ (∀ i, i < 5 → v 15 i = nI (A 15 i)) ∧ (∀ i, i < 4 → v 16 i = nI (A 16 i))
def WFb (A : AS) : Prop := (2 ≤ A 0 0 ∧ A 0 0 ≤ 6 ∧ A 0 1 ≤ 5 ∧ A 0 2 ≤ 5 ∧ A 0 3 ≤ 4 ∧ A 0 4 ≤ 100000 ∧ A 0 5 ≤ A 0 1) ∧ (∀ i, i < 6 → A 6 i ≤ 9) ∧ (∀ i, i < 6 → A 7 i ≤ 4) ∧ (∀ i, i < 24 → A 8 i ≤ 4) ∧ (∀ i, i < 5 → A 9 i ≤ 3) ∧ (∀ i, i < 5 → A 10 i ≤ 5) ∧ (∀ i, i < 5 → A 11 i ≤ 9) ∧ (∀ i, i < 5 → A 12 i ≤ 127) ∧ (∀ i, i < 5 → A 13 i ≤ 999) ∧ (∀ i, i < 5 → A 14 i ≤ 5) ∧ (∀ i, i < 5 → A 15 i ≤ 5) ∧ (∀ i, i < 4 → A 16 i ≤ 31)
def WF (A : AS) : Prop := WFb A ∧ (∀ p, p < 6 → ∀ k, k < A 7 p → A 8 (4 * p + k) < A 0 1) ∧ (∀ b, b < A 0 2 → A 14 b < A 0 0 ∧ A 15 b < A 0 0 ∧ A 14 b ≠ A 15 b)
theorem RepC.n {v : SV} {A : AS} (h : RepC v A) {j : Nat} (hj : j < 5) : v 0 j = nI (A 0 j) := h.1 j hj
theorem RepC.l {v : SV} {A : AS} (h : RepC v A) : v 0 5 = oI (ltA A) := h.2.1
theorem RepC.r6 {v : SV} {A : AS} (h : RepC v A) : ∀ i, i < 6 → v 6 i = nI (A 6 i) := h.2.2.1
theorem RepC.r7 {v : SV} {A : AS} (h : RepC v A) : ∀ i, i < 6 → v 7 i = nI (A 7 i) := h.2.2.2.1
theorem RepC.r8 {v : SV} {A : AS} (h : RepC v A) : ∀ i, i < 24 → v 8 i = nI (A 8 i) := h.2.2.2.2.1
theorem RepC.r9 {v : SV} {A : AS} (h : RepC v A) : ∀ i, i < 5 → v 9 i = nI (A 9 i) := h.2.2.2.2.2.1
theorem RepC.r10 {v : SV} {A : AS} (h : RepC v A) : ∀ i, i < 5 → v 10 i = nI (A 10 i) := h.2.2.2.2.2.2.1
theorem RepC.r11 {v : SV} {A : AS} (h : RepC v A) : ∀ i, i < 5 → v 11 i = nI (A 11 i) := h.2.2.2.2.2.2.2.1
theorem RepC.r12 {v : SV} {A : AS} (h : RepC v A) : ∀ i, i < 5 → v 12 i = nI (A 12 i) := h.2.2.2.2.2.2.2.2.1
theorem RepC.r13 {v : SV} {A : AS} (h : RepC v A) : ∀ i, i < 5 → v 13 i = nI (A 13 i) := h.2.2.2.2.2.2.2.2.2.1
theorem RepC.r14 {v : SV} {A : AS} (h : RepC v A) : ∀ i, i < 5 → v 14 i = nI (A 14 i) := h.2.2.2.2.2.2.2.2.2.2.1
theorem RepC.r15 {v : SV} {A : AS} (h : RepC v A) : ∀ i, i < 5 → v 15 i = nI (A 15 i) := h.2.2.2.2.2.2.2.2.2.2.2.1
theorem RepC.r16 {v : SV} {A : AS} (h : RepC v A) : ∀ i, i < 4 → v 16 i = nI (A 16 i) := h.2.2.2.2.2.2.2.2.2.2.2.2
theorem WFb.n {A : AS} (h : WFb A) : 2 ≤ A 0 0 ∧ A 0 0 ≤ 6 ∧ A 0 1 ≤ 5 ∧ A 0 2 ≤ 5 ∧ A 0 3 ≤ 4 ∧ A 0 4 ≤ 100000 ∧ A 0 5 ≤ A 0 1 := h.1
theorem WFb.b6 {A : AS} (h : WFb A) : ∀ i, i < 6 → A 6 i ≤ 9 := h.2.1
theorem WFb.b7 {A : AS} (h : WFb A) : ∀ i, i < 6 → A 7 i ≤ 4 := h.2.2.1
theorem WFb.b8 {A : AS} (h : WFb A) : ∀ i, i < 24 → A 8 i ≤ 4 := h.2.2.2.1
theorem WFb.b9 {A : AS} (h : WFb A) : ∀ i, i < 5 → A 9 i ≤ 3 := h.2.2.2.2.1
theorem WFb.b10 {A : AS} (h : WFb A) : ∀ i, i < 5 → A 10 i ≤ 5 := h.2.2.2.2.2.1
theorem WFb.b11 {A : AS} (h : WFb A) : ∀ i, i < 5 → A 11 i ≤ 9 := h.2.2.2.2.2.2.1
theorem WFb.b12 {A : AS} (h : WFb A) : ∀ i, i < 5 → A 12 i ≤ 127 := h.2.2.2.2.2.2.2.1
theorem WFb.b13 {A : AS} (h : WFb A) : ∀ i, i < 5 → A 13 i ≤ 999 := h.2.2.2.2.2.2.2.2.1
theorem WFb.b14 {A : AS} (h : WFb A) : ∀ i, i < 5 → A 14 i ≤ 5 := h.2.2.2.2.2.2.2.2.2.1
theorem WFb.b15 {A : AS} (h : WFb A) : ∀ i, i < 5 → A 15 i ≤ 5 := h.2.2.2.2.2.2.2.2.2.2.1
theorem WFb.b16 {A : AS} (h : WFb A) : ∀ i, i < 4 → A 16 i ≤ 31 := h.2.2.2.2.2.2.2.2.2.2.2
/-- a number that is told: is it one of n? -/
def ix (x : Int32) (n : Nat) : Option Nat := if 0 ≤ x.toInt ∧ x.toInt < (n : Int) then some x.toInt.toNat else none
theorem ix_some {x : Int32} {n p : Nat} (h : ix x n = some p) : x = nI p ∧ p < n := by
  unfold ix at h
  split at h
  · rename_i hc
    cases h
    refine ⟨?_, by omega⟩
    apply Int32.toInt_inj.mp
    have : x.toInt < 2 ^ 31 := Int32.toInt_lt x
    rw [nI_toInt (by omega)]
    omega
  · cases h
theorem ix_none {x : Int32} {n : Nat} (h : ix x n = none) (hn : n < 2 ^ 31) : x < 0 ∨ nI n ≤ x := by
  unfold ix at h
  split at h
  · cases h
  · rename_i hc
    rw [Int32.lt_iff_toInt_lt, Int32.le_iff_toInt_le, nI_toInt hn]
    have : (0 : Int32).toInt = 0 := rfl
    omega
theorem ix_nI {p n : Nat} (h : p < n) (hn : n < 2 ^ 31) : ix (nI p) n = some p := by
  unfold ix
  rw [nI_toInt (by omega), if_pos (by omega)]
  simp
theorem hasPart_s {v : SV} {A : AS} (hR : RepC v A) (hW : WFb A) (x : Int32) : m_X3_hasPart v x = some (if (ix x (A 0 0)).isSome then 1 else 0) := by
  have h0 := hR.n (j := 0) (by omega)
  have hn := hW.n
  unfold m_X3_hasPart
  rw [h0]
  cases hi : ix x (A 0 0) with
  | some p =>
    obtain ⟨rfl, hp⟩ := ix_some hi
    rw [if_neg (nI_pos (by omega)), if_neg (nI_ge hp (by omega))]
    rfl
  | none =>
    rcases ix_none hi (by omega) with h | h
    · rw [if_pos h]; rfl
    · by_cases h1 : x < 0
      · rw [if_pos h1]; rfl
      · rw [if_neg h1, if_pos h]; rfl
theorem hasSitter_s {v : SV} {A : AS} (hR : RepC v A) (hW : WFb A) (x : Int32) : m_X3_hasSitter v x = some (if (ix x (A 0 1)).isSome then 1 else 0) := by
  have h0 := hR.n (j := 1) (by omega)
  have hn := hW.n
  unfold m_X3_hasSitter
  rw [h0]
  cases hi : ix x (A 0 1) with
  | some p =>
    obtain ⟨rfl, hp⟩ := ix_some hi
    rw [if_neg (nI_pos (by omega)), if_neg (nI_ge hp (by omega))]
    rfl
  | none =>
    rcases ix_none hi (by omega) with h | h
    · rw [if_pos h]; rfl
    · by_cases h1 : x < 0
      · rw [if_pos h1]; rfl
      · rw [if_neg h1, if_pos h]; rfl
/-- who shows on a part -/
def tpA (A : AS) (p : Nat) : Option Nat := if A 7 p = 0 then none else some (A 8 (4 * p + A 7 p - 1))
theorem top_s {v : SV} {A : AS} (hR : RepC v A) (hW : WFb A) {p : Nat} (hp : p < A 0 0) : m_X3_top v (nI p) = some (oI (tpA A p)) := by
  have hn := hW.n
  have h7 := hR.r7 p (by omega)
  have b7 := hW.b7 p (by omega)
  unfold m_X3_top
  rw [hasPart_s hR hW, ix_nI hp (by omega), some_bind]
  simp only [Option.isSome_some, if_true]
  rw [if_neg (by decide)]
  simp (disch := omega) only [inB_nI, ck_true, nI_clamp, h7, lit_nI, cast_eq]
  unfold tpA
  by_cases hz : A 7 p = 0
  · simp only [hz, if_true]; rfl
  · rw [if_neg hz, if_neg hz]
    simp (disch := omega) only [nI_add, pk_mul, pk_sub, inB_nI, ck_true, nI_clamp, hR.r8, Nat.mul_comm p 4]
    rfl
theorem tpA_lt {A : AS} (hW : WF A) {p s : Nat} (hp : p < 6) (h : tpA A p = some s) : s < A 0 1 := by
  unfold tpA at h
  split at h
  · cases h
  · cases h
    have b7 := hW.1.b7 p hp
    have := hW.2.1 p hp (A 7 p - 1) (by omega)
    rw [show 4 * p + A 7 p - 1 = 4 * p + (A 7 p - 1) by omega]
    exact this
/-- parts that show x, as bits -/
def shI (A : AS) (x : Int32) : Nat → Int32 := itn (fun p acc => if oI (tpA A p) = x then acc ||| ((1 : Int32) <<< (nI p &&& 31)) else acc) 0
theorem showing_s {v : SV} {A : AS} (hR : RepC v A) (hW : WFb A) (x : Int32) : m_X3_showing v x = some (shI A x (A 0 0)) := by
  have hn := hW.n
  have h0 := hR.n (j := 0) (by omega)
  unfold m_X3_showing
  rw [show ((0 : Int32), (0 : Int32)) = (fun k => (shI A x k, nI k)) 0 from rfl]
  rw [lp_run (step := m_X3_showing_L4 v x) (fun k => (shI A x k, nI k)) (A 0 0) (r := (shI A x (A 0 0), nI (A 0 0)))]
  · rfl
  · intro k hk
    unfold m_X3_showing_L4
    dsimp only
    rw [h0, if_neg (nI_ge hk (by omega)), top_s hR hW hk, some_bind]
    show _ = some (Sum.inl (shI A x (k + 1), nI (k + 1)))
    rw [show shI A x (k + 1) = (if oI (tpA A k) = x then shI A x k ||| ((1 : Int32) <<< (nI k &&& 31)) else shI A x k) from rfl, ← nI_1]
    split <;> rfl
  · unfold m_X3_showing_L4
    dsimp only
    rw [h0, if_pos (nI_le (Nat.le_refl _) (by omega))]
