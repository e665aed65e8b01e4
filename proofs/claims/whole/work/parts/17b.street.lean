/-! ===== PURE: the street's numbers as Nat; what its methods answer ===== -/
abbrev AS : Type := Nat → Nat → Nat
def ltA (A : AS) : Option Nat := if A 0 5 = 0 then none else some (A 0 5 - 1)
def RepC (v : SV) (A : AS) : Prop := (∀ j, j < 5 → v 0 j = nI (A 0 j)) ∧ v 0 5 = oI (ltA A) ∧ (∀ i, i < 6 → v 6 i = nI (A 6 i)) ∧ (∀ i, i < 6 → v 7 i = nI (A 7 i)) ∧ (∀ i, i < 24 → v 8 i = nI (A 8 i)) ∧ (∀ i, i < 5 → v 9 i = nI (A 9 i)) ∧ (∀ i, i < 5 → v 10 i = nI (A 10 i)) ∧ (∀ i, i < 5 → v 11 i = nI (A 11 i)) ∧ (∀ i, i < 5 → v 12 i = nI (A 12 i)) ∧ (∀ i, i < 5 → v 13 i = nI (A 13 i)) ∧ (∀ i, i < 5 → v 14 i = nI (A 14 i)) ∧ (∀ i, i < 5 → v 15 i = nI (A 15 i)) ∧ (∀ i, i < 4 → v 16 i = nI (A 16 i))
def WFb (A : AS) : Prop := (2 ≤ A 0 0 ∧ A 0 0 ≤ 6 ∧ A 0 1 ≤ 5 ∧ A 0 2 ≤ 5 ∧ A 0 3 ≤ 4 ∧ A 0 4 ≤ 100000 ∧ A 0 5 ≤ A 0 1) ∧ (∀ i, i < 6 → A 6 i ≤ 9) ∧ (∀ i, i < 6 → A 7 i ≤ 4) ∧ (∀ s, s < A 0 1 → A 9 s ≤ 3 ∧ A 10 s ≤ 5 ∧ A 11 s ≤ 9 ∧ A 12 s ≤ 127 ∧ A 13 s ≤ 999) ∧ (∀ f, f < A 0 3 → A 16 f ≤ 31)
def WF (A : AS) : Prop := WFb A ∧ (∀ p, p < 6 → ∀ k, k < A 7 p → A 8 (4 * p + k) < A 0 1) ∧ (∀ b, b < A 0 2 → A 14 b < A 0 0 ∧ A 15 b < A 0 0 ∧ A 14 b ≠ A 15 b)
theorem RepC.n {v : SV} {A : AS} (h : RepC v A) {j : Nat} (hj : j < 5) : v 0 j = nI (A 0 j) := h.1 j hj
theorem RepC.l {v : SV} {A : AS} (h : RepC v A) : v 0 5 = oI (ltA A) := h.2.1
theorem RepC.r6 {v : SV} {A : AS} (h : RepC v A) : ∀ i, i < 6 → v 6 i = nI (A 6 i) := h.2.2.1
theorem RepC.r7 {v : SV} {A : AS} (h : RepC v A) : ∀ i, i < 6 → v 7 i = nI (A 7 i) := h.2.2.2.1
theorem RepC.r8 {v : SV} {A : AS} (h : RepC v A) : ∀ i, i < 24 → v 8 i = nI (A 8 i) := h.2.2.2.2.1
theorem RepC.r9 {v : SV} {A : AS} (h : RepC v A) : ∀ i, i < 5 → v 9 i = nI (A 9 i) := h.2.2.2.2.2.1
theorem RepC.r10 {v : SV} {A : AS} (h : RepC v A) : ∀ i, i < 5 → v 10 i = nI (A 10 i) := h.2.2.2.2.2.2.1
theorem RepC.r11 {v : SV} {A : AS} (h : RepC v A) : ∀ i, i < 5 → v 11 i = nI (A 11 i) := h.2.2.2.2.2.2.2.1
theorem RepC.r12 {v : SV} {A : AS} (h : RepC v A) : ∀ i, i < 5 → v 12 i = nI (A 12 i) := h.2.2.2.2.2.2.2.2.1
theorem RepC.r13 {v : SV} {A : AS} (h : RepC v A) : ∀ i, i < 5 → v 13 i = nI (A 13 i) := h.2.2.2.2.2.2.2.2.2.1
theorem RepC.r14 {v : SV} {A : AS} (h : RepC v A) : ∀ i, i < 5 → v 14 i = nI (A 14 i) := h.2.2.2.2.2.2.2.2.2.2.1
theorem RepC.r15 {v : SV} {A : AS} (h : RepC v A) : ∀ i, i < 5 → v 15 i = nI (A 15 i) := h.2.2.2.2.2.2.2.2.2.2.2.1
theorem RepC.r16 {v : SV} {A : AS} (h : RepC v A) : ∀ i, i < 4 → v 16 i = nI (A 16 i) := h.2.2.2.2.2.2.2.2.2.2.2.2
theorem WFb.n {A : AS} (h : WFb A) : 2 ≤ A 0 0 ∧ A 0 0 ≤ 6 ∧ A 0 1 ≤ 5 ∧ A 0 2 ≤ 5 ∧ A 0 3 ≤ 4 ∧ A 0 4 ≤ 100000 ∧ A 0 5 ≤ A 0 1 := h.1
theorem WFb.b6 {A : AS} (h : WFb A) : ∀ i, i < 6 → A 6 i ≤ 9 := h.2.1
theorem WFb.b7 {A : AS} (h : WFb A) : ∀ i, i < 6 → A 7 i ≤ 4 := h.2.2.1
theorem WFb.bs {A : AS} (h : WFb A) : ∀ s, s < A 0 1 → A 9 s ≤ 3 ∧ A 10 s ≤ 5 ∧ A 11 s ≤ 9 ∧ A 12 s ≤ 127 ∧ A 13 s ≤ 999 := h.2.2.2.1
theorem WFb.b16 {A : AS} (h : WFb A) : ∀ i, i < A 0 3 → A 16 i ≤ 31 := h.2.2.2.2
theorem hasPart_s {v : SV} {A : AS} (hR : RepC v A) (hW : WFb A) (x : Int32) : m_X3_hasPart v x = some (if (ix x (A 0 0)).isSome then 1 else 0) := by
  have h0 := hR.n (j := 0) (by omega)
  have hn := hW.n
  unfold m_X3_hasPart
  rw [h0]
  cases hi : ix x (A 0 0) with
  | some p =>
    obtain ⟨rfl, hp⟩ := ix_some hi
    rw [if_neg (nI_pos (by omega)), if_neg (nI_ge hp (by omega))]
    rfl
  | none =>
    rcases ix_none hi (by omega) with h | h
    · rw [if_pos h]; rfl
    · by_cases h1 : x < 0
      · rw [if_pos h1]; rfl
      · rw [if_neg h1, if_pos h]; rfl
theorem hasSitter_s {v : SV} {A : AS} (hR : RepC v A) (hW : WFb A) (x : Int32) : m_X3_hasSitter v x = some (if (ix x (A 0 1)).isSome then 1 else 0) := by
  have h0 := hR.n (j := 1) (by omega)
  have hn := hW.n
  unfold m_X3_hasSitter
  rw [h0]
  cases hi : ix x (A 0 1) with
  | some p =>
    obtain ⟨rfl, hp⟩ := ix_some hi
    rw [if_neg (nI_pos (by omega)), if_neg (nI_ge hp (by omega))]
    rfl
  | none =>
    rcases ix_none hi (by omega) with h | h
    · rw [if_pos h]; rfl
    · by_cases h1 : x < 0
      · rw [if_pos h1]; rfl
      · rw [if_neg h1, if_pos h]; rfl
/-- who shows on a part -/
def tpA (A : AS) (p : Nat) : Option Nat := if A 7 p = 0 then none else some (A 8 (4 * p + A 7 p - 1))
theorem top_s {v : SV} {A : AS} (hR : RepC v A) (hW : WFb A) {p : Nat} (hp : p < A 0 0) : m_X3_top v (nI p) = some (oI (tpA A p)) := by
  have hn := hW.n
  have h7 := hR.r7 p (by omega)
  have b7 := hW.b7 p (by omega)
  unfold m_X3_top
  rw [hasPart_s hR hW, ix_nI hp (by omega), some_bind]
  simp only [Option.isSome_some, if_true]
  rw [if_neg (by decide)]
  simp (disch := omega) only [inB_nI, ck_true, nI_clamp, h7, lit_nI, cast_eq]
  unfold tpA
  by_cases hz : A 7 p = 0
  · simp only [hz, if_true]; rfl
  · rw [if_neg hz, if_neg hz]
    simp (disch := omega) only [nI_add, pk_mul, pk_sub, inB_nI, ck_true, nI_clamp, hR.r8, Nat.mul_comm p 4]
    rfl
/-- parts that show one, as bits -/
def shA (A : AS) (o : Option Nat) : Nat := orN (fun p => decide (tpA A p = o)) (A 0 0)
theorem oI_eq {o o' : Option Nat} (h : ∀ s, o = some s → s < 2 ^ 31) (h' : ∀ s, o' = some s → s < 2 ^ 31) : (oI o = oI o') = (o = o') := by
  refine propext ⟨fun e => ?_, fun e => by rw [e]⟩
  cases o' with
  | none => exact (oI_m4 h) ▸ e
  | some t =>
    cases o with
    | none =>
      have := (oI_m4 h') ▸ e.symm
      cases this
    | some s =>
      have := (nI_eq (h s rfl) (h' t rfl)).mp e
      rw [this]
theorem tpA_lt {A : AS} (hW : WF A) {p s : Nat} (hp : p < 6) (h : tpA A p = some s) : s < A 0 1 := by
  unfold tpA at h
  split at h
  · cases h
  · cases h
    have b7 := hW.1.b7 p hp
    have := hW.2.1 p hp (A 7 p - 1) (by omega)
    rw [show 4 * p + A 7 p - 1 = 4 * p + (A 7 p - 1) by omega]
    exact this
theorem tpA_5 {A : AS} (hW : WF A) {p s : Nat} (hp : p < 6) (h : tpA A p = some s) : s < 5 := by
  have := tpA_lt hW hp h
  have := hW.1.n
  omega
theorem showing_s {v : SV} {A : AS} (hR : RepC v A) (hW : WF A) {o : Option Nat} (ho : ∀ s, o = some s → s < 2 ^ 31) : m_X3_showing v (oI o) = some (nI (shA A o)) := by
  have hn := hW.1.n
  have h0 := hR.n (j := 0) (by omega)
  unfold m_X3_showing
  rw [show ((0 : Int32), (0 : Int32)) = (fun k => (nI (orN (fun p => decide (tpA A p = o)) k), nI k)) 0 from rfl]
  rw [lp_run (step := m_X3_showing_L4 v (oI o)) (fun k => (nI (orN (fun p => decide (tpA A p = o)) k), nI k)) (A 0 0) (r := (nI (shA A o), nI (A 0 0)))]
  · rfl
  · intro k hk
    unfold m_X3_showing_L4
    dsimp only
    rw [h0, if_neg (nI_ge hk (by omega)), top_s hR hW.1 hk, some_bind, ifp (oI_eq (fun s hs => by have := tpA_5 hW (by omega) hs; omega) ho)]
    show _ = some (Sum.inl (nI (if decide (tpA A k = o) = true then _ ||| 2 ^ k else _), nI (k + 1)))
    by_cases h : tpA A k = o
    · rw [if_pos h, if_pos (by simp [h]), b_two (by omega), nx_or, nI_1]
    · rw [if_neg h, if_neg (by simp [h]), nI_1]
  · unfold m_X3_showing_L4
    dsimp only
    rw [h0, if_pos (nI_le (Nat.le_refl _) (by omega))]
    rfl
