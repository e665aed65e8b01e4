def aset (A : AS) (r i x : Nat) : AS := fun k j => if k = r ∧ j = i then x else A k j
theorem aset_s {A : AS} {r i x : Nat} : aset A r i x r i = x := by simp [aset]
theorem aset_r {A : AS} {r i x k : Nat} (h : k ≠ r) : aset A r i x k = A k := by funext j; simp [aset, h]
theorem aset_i {A : AS} {r i x j : Nat} (h : j ≠ i) : aset A r i x r j = A r j := by simp [aset, h]
theorem up2_ss {v : SV} {k i : Nat} {x : Int32} : up2 v k i x k i = x := by rw [up2_s]; exact pk_us
theorem up2_si {v : SV} {k i j : Nat} {x : Int32} (h : j ≠ i) : up2 v k i x k j = v k j := by rw [up2_s]; exact pk_un h
theorem up2_a {v : SV} {A : AS} {r i x k j : Nat} (h : v k j = nI (A k j)) : up2 v r i (nI x) k j = nI (aset A r i x k j) := by
  by_cases hk : k = r
  · subst hk
    by_cases hj : j = i
    · subst hj; rw [up2_ss, aset_s]
    · rw [up2_si hj, aset_i hj, h]
  · rw [up2_n hk, aset_r hk, h]
theorem RepC.cong {v v' : SV} {A A' : AS} (h : RepC v A) (hn : ∀ j, j < 5 → v' 0 j = nI (A' 0 j)) (hl : v' 0 5 = oI (ltA A')) (ho : ∀ k, 6 ≤ k → k ≤ 16 → ∀ i, i < 24 → v k i = nI (A k i) → v' k i = nI (A' k i)) : RepC v' A' :=
  ⟨hn, hl, fun i hi => ho 6 (by omega) (by omega) i (by omega) (h.r6 i hi), fun i hi => ho 7 (by omega) (by omega) i (by omega) (h.r7 i hi), fun i hi => ho 8 (by omega) (by omega) i (by omega) (h.r8 i hi), fun i hi => ho 9 (by omega) (by omega) i (by omega) (h.r9 i hi), fun i hi => ho 10 (by omega) (by omega) i (by omega) (h.r10 i hi), fun i hi => ho 11 (by omega) (by omega) i (by omega) (h.r11 i hi), fun i hi => ho 12 (by omega) (by omega) i (by omega) (h.r12 i hi), fun i hi => ho 13 (by omega) (by omega) i (by omega) (h.r13 i hi), fun i hi => ho 14 (by omega) (by omega) i (by omega) (h.r14 i hi), fun i hi => ho 15 (by omega) (by omega) i (by omega) (h.r15 i hi), fun i hi => ho 16 (by omega) (by omega) i (by omega) (h.r16 i hi)⟩
theorem RepC.set {v : SV} {A : AS} (h : RepC v A) {r i x : Nat} (hr : r ≠ 0) : RepC (up2 v r i (nI x)) (aset A r i x) := by
  refine h.cong (fun j hj => up2_a (h.n hj)) ?_ (fun k _ _ j _ e => up2_a e)
  rw [up2_n (fun e => hr e.symm), h.l]
  unfold ltA
  rw [aset_r (fun e => hr e.symm)]
theorem RepC.set0 {v : SV} {A : AS} (h : RepC v A) {i x : Nat} (hr : i < 5) : RepC (up2 v 0 i (nI x)) (aset A 0 i x) := by
  refine h.cong (fun j hj => up2_a (h.n hj)) ?_ (fun k _ _ j _ e => up2_a e)
  rw [up2_si (by omega), h.l]
  unfold ltA
  rw [aset_i (by omega)]
theorem RepC.setL {v : SV} {A : AS} (h : RepC v A) {s : Nat} : RepC (up2 v 0 5 (nI s)) (aset A 0 5 (s + 1)) := by
  refine h.cong (fun j hj => ?_) ?_ (fun k h1 _ j _ e => ?_)
  · rw [up2_si (by omega), aset_i (by omega), h.n hj]
  · rw [up2_ss]
    unfold ltA
    rw [aset_s, if_neg (by omega)]
    rfl
  · rw [up2_n (by omega), aset_r (by omega), e]
/-- a sitter sits for a part -/
def covA (A : AS) (p s : Nat) : AS := fun r i => if r = 8 then (if A 7 p = 4 then (if 4 * p ≤ i ∧ i < 4 * p + 3 then A 8 (i + 1) else if i = 4 * p + 3 then s else A 8 i) else if i = 4 * p + A 7 p then s else A 8 i) else if r = 7 then (if i = p then (if A 7 p = 4 then 4 else A 7 p + 1) else A 7 i) else A r i
theorem covA_r {A : AS} {p s r : Nat} (h8 : r ≠ 8) (h7 : r ≠ 7) : covA A p s r = A r := by funext i; simp [covA, h8, h7]
theorem covA_7 {A : AS} {p s i : Nat} : covA A p s 7 i = if i = p then (if A 7 p = 4 then 4 else A 7 p + 1) else A 7 i := by simp [covA]
theorem covA_8 {A : AS} {p s i : Nat} : covA A p s 8 i = if A 7 p = 4 then (if 4 * p ≤ i ∧ i < 4 * p + 3 then A 8 (i + 1) else if i = 4 * p + 3 then s else A 8 i) else if i = 4 * p + A 7 p then s else A 8 i := by simp [covA]
theorem cpB_ok {a b n N M : Nat} (h1 : a + n ≤ N) (h2 : b + n ≤ M) (hN : N < 2 ^ 31) (hM : M < 2 ^ 31) : cpB (nI a) (nI b) (nI n) N M = true := by
  unfold cpB
  rw [nI_clamp (by omega), nI_clamp (by omega), nI_clamp (by omega)]
  exact decide_eq_true ⟨nI_pos (by omega), nI_pos (by omega), nI_pos (by omega), h1, h2⟩
theorem cover_t {v1 : SV} {A1 : AS} {p s : Nat} (hp : p < 6) (h1 : RepC v1 A1) (hle : A1 7 p ≤ 3) : m_X3_cover_J40 (nI p) (nI s) v1 = some (up2 (up2 v1 8 (4 * p + A1 7 p) (nI s)) 7 p (nI (A1 7 p + 1))) := by
  have e7 := h1.r7 p hp
  unfold m_X3_cover_J40
  simp (disch := omega) only [inB_nI, ck_true, nI_clamp, e7, lit_nI, nI_add, pk_mul, lett_eq, Nat.mul_comm p 4]
  rw [show up2 v1 8 (4 * p + A1 7 p) (nI s) 7 p = nI (A1 7 p) from by rw [up2_n (by decide), e7]]
  simp only [nI_add]
theorem covA_4 {A : AS} {p s : Nat} (h4 : A 7 p = 4) : covA A p s = aset (aset (fun r i => if r = 8 then (if 4 * p ≤ i ∧ i < 4 * p + 3 then A 8 (i + 1) else A 8 i) else aset A 7 p 3 r i) 8 (4 * p + 3) s) 7 p 4 := by
  funext r i
  by_cases k8 : r = 8
  · subst k8
    simp only [covA, aset, h4, if_true, Nat.reduceEqDiff, false_and, if_false, true_and]
    by_cases hi : i = 4 * p + 3
    · rw [if_pos hi, if_pos hi, if_neg (by omega)]
    · rw [if_neg hi, if_neg hi]
  · by_cases k7 : r = 7
    · subst k7
      simp only [covA, aset, h4, if_true, Nat.reduceEqDiff, false_and, if_false, true_and]
      by_cases hi : i = p
      · rw [if_pos hi, if_pos hi]
      · rw [if_neg hi, if_neg hi, if_neg hi]
    · simp only [covA, aset, k8, k7, if_false, false_and]
theorem covA_n {A : AS} {p s : Nat} (h4 : ¬ A 7 p = 4) : covA A p s = aset (aset A 8 (4 * p + A 7 p) s) 7 p (A 7 p + 1) := by
  funext r i
  by_cases k8 : r = 8
  · subst k8
    simp only [covA, aset, h4, if_true, Nat.reduceEqDiff, false_and, if_false, true_and]
  · by_cases k7 : r = 7
    · subst k7
      simp only [covA, aset, h4, if_true, Nat.reduceEqDiff, false_and, if_false, true_and]
    · simp only [covA, aset, k8, k7, if_false, false_and]
theorem cover_s {v : SV} {A : AS} (hR : RepC v A) (hW : WFb A) {p s : Nat} (hp : p < 6) : ∃ v', m_X3_cover v (nI p) (nI s) = some v' ∧ RepC v' (covA A p s) := by
  have h7 := hR.r7 p hp
  have b7 := hW.b7 p hp
  by_cases h4 : A 7 p = 4
  · rw [covA_4 h4]
    have h3 : RepC (up2 (upr v 8 (va_cpy (v 8) (v 8) (4 * p + 1) (4 * p) 3)) 7 p (nI 3)) (fun r i => if r = 8 then (if 4 * p ≤ i ∧ i < 4 * p + 3 then A 8 (i + 1) else A 8 i) else aset A 7 p 3 r i) := by
      have h0 : RepC (upr v 8 (va_cpy (v 8) (v 8) (4 * p + 1) (4 * p) 3)) (fun r i => if r = 8 then (if 4 * p ≤ i ∧ i < 4 * p + 3 then A 8 (i + 1) else A 8 i) else A r i) := by
        refine hR.cong (fun j hj => ?_) ?_ (fun k h1 h2 i hi e => ?_)
        · rw [upr_n (by decide)]
          exact hR.n hj
        · rw [upr_n (by decide)]
          exact hR.l
        · by_cases k8 : k = 8
          · subst k8
            rw [upr_s]
            simp only [if_true]
            split
            · rename_i hc
              rw [pk_cpy_in hc.1 hc.2, ← hR.r8 (i + 1) (by omega), show 4 * p + 1 + (i - 4 * p) = i + 1 by omega]
            · rename_i hc
              rw [pk_cpy_out (by omega), e]
          · rw [upr_n k8, e]
            simp only [k8, if_false]
      have h1 := h0.set (r := 7) (i := p) (x := 3) (by decide)
      refine (congrArg (RepC _) ?_).mp h1
      funext r i
      by_cases k8 : r = 8
      · subst k8; simp only [aset, if_true, Nat.reduceEqDiff, false_and, if_false]
      · simp only [aset, k8, if_false]
    refine ⟨up2 (up2 (up2 (upr v 8 (va_cpy (v 8) (v 8) (4 * p + 1) (4 * p) 3)) 7 p (nI 3)) 8 (4 * p + 3) (nI s)) 7 p (nI 4), ?_, (h3.set (r := 8) (by decide)).set (r := 7) (by decide)⟩
    unfold m_X3_cover
    simp (disch := omega) only [inB_nI, ck_true, nI_clamp, h7, lit_nI, nI_add, pk_mul, lett_eq, Nat.mul_comm p 4, cast_eq, h4]
    rw [if_pos trivial, cpB_ok (by omega) (by omega) (by omega) (by omega), ck_true]
    rw [show upr v 8 (va_cpy (v 8) (v 8) (4 * p + 1) (4 * p) 3) 7 p = nI 4 from by rw [upr_n (by decide), h7, h4]]
    rw [pk_sub (by omega)]
    have := cover_t (s := s) hp h3 (by simp [aset])
    simpa [aset] using this
  · rw [covA_n h4]
    refine ⟨up2 (up2 v 8 (4 * p + A 7 p) (nI s)) 7 p (nI (A 7 p + 1)), ?_, (hR.set (r := 8) (by decide)).set (r := 7) (by decide)⟩
    unfold m_X3_cover
    simp (disch := omega) only [inB_nI, ck_true, nI_clamp, h7, lit_nI, cast_eq, h4, if_false]
    exact cover_t hp hR (by omega)
