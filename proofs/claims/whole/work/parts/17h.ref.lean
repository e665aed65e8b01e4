/-! ===== PURE: the reference's state and its methods ===== -/
def RN (w : SV) (A : AS) : Prop := w 0 1 = nI (A 0 0) ∧ w 0 2 = nI (A 0 1) ∧ w 0 4 = nI (A 0 2) ∧ w 0 6 = nI (A 0 3) ∧ (∀ b, b < A 0 2 → w 3 (2 * b) = nI (A 14 b) ∧ w 3 (2 * b + 1) = nI (A 15 b)) ∧ (∀ f, f < A 0 3 → w 5 f = nI (A 16 f))
def RS (w : SV) (pg : Nat) (A : AS) : Prop := (∀ p, p < A 0 0 → w 50 (pg + p) + 1 = nI (A 6 p)) ∧ (∀ s, s < A 0 1 → w 50 (pg + (36 + s)) = nI (A 9 s) ∧ w 50 (pg + (41 + s)) = nI (A 10 s) ∧ w 50 (pg + (46 + s)) = nI (A 11 s))
def RP (w : SV) (pg : Nat) (A : AS) : Prop := (∀ p, p < A 0 0 → w 50 (pg + 6 + p) = nI (A 7 p)) ∧ (∀ p, p < A 0 0 → ∀ k, k < A 7 p → w 50 (pg + 12 + 4 * p + k) = nI (A 8 (4 * p + k))) ∧ (∀ s, s < A 0 1 → w 50 (pg + 51 + s) = nI (A 12 s) ∧ w 50 (pg + 56 + s) = nI (A 13 s)) ∧ w 50 (pg + 61) = nI (A 0 4) ∧ w 50 (pg + 62) = nI (A 0 5)
def RM (w : SV) (pg : Nat) (A : AS) : Prop := RN w A ∧ RS w 0 A ∧ RP w pg A
theorem RM.n0 {w : SV} {pg : Nat} {A : AS} (h : RM w pg A) : w 0 1 = nI (A 0 0) := h.1.1
theorem RM.n1 {w : SV} {pg : Nat} {A : AS} (h : RM w pg A) : w 0 2 = nI (A 0 1) := h.1.2.1
theorem RM.n2 {w : SV} {pg : Nat} {A : AS} (h : RM w pg A) : w 0 4 = nI (A 0 2) := h.1.2.2.1
theorem RM.n3 {w : SV} {pg : Nat} {A : AS} (h : RM w pg A) : w 0 6 = nI (A 0 3) := h.1.2.2.2.1
theorem RM.bo {w : SV} {pg : Nat} {A : AS} (h : RM w pg A) {b : Nat} (hb : b < A 0 2) : w 3 (2 * b) = nI (A 14 b) := (h.1.2.2.2.2.1 b hb).1
theorem RM.bo' {w : SV} {pg : Nat} {A : AS} (h : RM w pg A) {b : Nat} (hb : b < A 0 2) : w 3 (2 * b + 1) = nI (A 15 b) := (h.1.2.2.2.2.1 b hb).2
theorem RM.fo {w : SV} {pg : Nat} {A : AS} (h : RM w pg A) {f : Nat} (hf : f < A 0 3) : w 5 f = nI (A 16 f) := h.1.2.2.2.2.2 f hf
theorem RM.wo {w : SV} {pg : Nat} {A : AS} (h : RM w pg A) {p : Nat} (hp : p < A 0 0) : w 50 p + 1 = nI (A 6 p) := by have := h.2.1.1 p hp; rwa [Nat.zero_add] at this
theorem RM.ki {w : SV} {pg : Nat} {A : AS} (h : RM w pg A) {s : Nat} (hs : s < A 0 1) : w 50 (36 + s) = nI (A 9 s) := by have := (h.2.1.2 s hs).1; rwa [Nat.zero_add] at this
theorem RM.mi {w : SV} {pg : Nat} {A : AS} (h : RM w pg A) {s : Nat} (hs : s < A 0 1) : w 50 (41 + s) = nI (A 10 s) := by have := (h.2.1.2 s hs).2.1; rwa [Nat.zero_add] at this
theorem RM.ak {w : SV} {pg : Nat} {A : AS} (h : RM w pg A) {s : Nat} (hs : s < A 0 1) : w 50 (46 + s) = nI (A 11 s) := by have := (h.2.1.2 s hs).2.2; rwa [Nat.zero_add] at this
theorem RM.he {w : SV} {pg : Nat} {A : AS} (h : RM w pg A) {p : Nat} (hp : p < A 0 0) : w 50 (pg + 6 + p) = nI (A 7 p) := h.2.2.1 p hp
theorem RM.la {w : SV} {pg : Nat} {A : AS} (h : RM w pg A) {p k : Nat} (hp : p < A 0 0) (hk : k < A 7 p) : w 50 (pg + 12 + 4 * p + k) = nI (A 8 (4 * p + k)) := h.2.2.2.1 p hp k hk
theorem RM.fr {w : SV} {pg : Nat} {A : AS} (h : RM w pg A) {s : Nat} (hs : s < A 0 1) : w 50 (pg + 51 + s) = nI (A 12 s) := (h.2.2.2.2.1 s hs).1
theorem RM.ea {w : SV} {pg : Nat} {A : AS} (h : RM w pg A) {s : Nat} (hs : s < A 0 1) : w 50 (pg + 56 + s) = nI (A 13 s) := (h.2.2.2.2.1 s hs).2
theorem RM.da {w : SV} {pg : Nat} {A : AS} (h : RM w pg A) : w 50 (pg + 61) = nI (A 0 4) := h.2.2.2.2.2.1
theorem RM.ls {w : SV} {pg : Nat} {A : AS} (h : RM w pg A) : w 50 (pg + 62) = nI (A 0 5) := h.2.2.2.2.2.2
theorem li_0 : (0 : Int32) = nI 0 := rfl
theorem li_1 : (1 : Int32) = nI 1 := rfl
theorem li_2 : (2 : Int32) = nI 2 := rfl
theorem li_3 : (3 : Int32) = nI 3 := rfl
theorem li_4 : (4 : Int32) = nI 4 := rfl
theorem li_5 : (5 : Int32) = nI 5 := rfl
theorem li_6 : (6 : Int32) = nI 6 := rfl
theorem li_12 : (12 : Int32) = nI 12 := rfl
theorem li_36 : (36 : Int32) = nI 36 := rfl
theorem li_41 : (41 : Int32) = nI 41 := rfl
theorem li_46 : (46 : Int32) = nI 46 := rfl
theorem li_51 : (51 : Int32) = nI 51 := rfl
theorem li_56 : (56 : Int32) = nI 56 := rfl
theorem li_61 : (61 : Int32) = nI 61 := rfl
theorem li_62 : (62 : Int32) = nI 62 := rfl
theorem li_63 : (63 : Int32) = nI 63 := rfl
theorem li_252 : (252 : Int32) = nI 252 := rfl
theorem isPart_s {w : SV} {pg : Nat} {A : AS} (hM : RM w pg A) (hW : WFb A) (x : Int32) : m_X6_isPart w x = some (bI (ix x (A 0 0)).isSome) := by
  have hn := hW.n
  unfold m_X6_isPart
  rw [hM.n0, in_s (pred_64 (by omega)) (by omega), some_bind, nz_bI, ck_true]
theorem isSitter_s {w : SV} {pg : Nat} {A : AS} (hM : RM w pg A) (hW : WFb A) (x : Int32) : m_X6_isSitter w x = some (bI (ix x (A 0 1)).isSome) := by
  have hn := hW.n
  unfold m_X6_isSitter
  rw [hM.n1, in_s (pred_64 (by omega)) (by omega), some_bind, nz_bI, ck_true]
theorem topOn_s {w : SV} {pg : Nat} {A : AS} (hM : RM w pg A) (hW : WFb A) (hpg : pg ≤ 252) {p : Nat} (hp : p < A 0 0) : m_X6_topOn w (nI pg) (nI p) = some (oI (tpA A p)) := by
  have hn := hW.n
  have b7 := hW.b7 p (by omega)
  unfold m_X6_topOn tpA
  rw [li_6, li_12, nI_add, nI_add, inB_nI (by omega) (by omega), ck_true, nI_clamp (by omega), hM.he hp]
  rw [ifp (show (nI (A 7 p) = (0 : Int32)) = (A 7 p = 0) from cast_eq (b := 0) (by omega) (by omega))]
  by_cases hz : A 7 p = 0
  · rw [if_pos hz, if_pos hz]; rfl
  · rw [if_neg hz, if_neg hz, li_4, pk_mul, nI_add, nI_add, nI_add, li_1, pk_sub (by omega), inB_nI (by omega) (by omega), ck_true, nI_clamp (by omega), show pg + 12 + 4 * p + A 7 p - 1 = pg + 12 + 4 * p + (A 7 p - 1) by omega, hM.la hp (by omega), show 4 * p + A 7 p - 1 = 4 * p + (A 7 p - 1) by omega]
    rfl
theorem worthOf_s {w : SV} {pg : Nat} {A : AS} (hM : RM w pg A) (hW : WFb A) {p : Nat} (hp : p < A 0 0) : m_X6_worthOf w (nI p) = some (nI (A 6 p)) := by
  have hn := hW.n
  unfold m_X6_worthOf
  rw [inB_nI (by omega) (by omega), ck_true, nI_clamp (by omega), hM.wo hp]
theorem or0 (x : Int32) : x ||| (0 : Int32) = x := Int32.or_zero
theorem ad0 (x : Int32) : x + (0 : Int32) = x := Int32.add_zero x
theorem shownOn_s {w : SV} {pg : Nat} {A : AS} (hM : RM w pg A) (hW : WF A) (hpg : pg ≤ 252) {o : Option Nat} (ho : ∀ s, o = some s → s < 2 ^ 31) : m_X6_shownOn w (nI pg) (oI o) = some (nI (shA A o)) := by
  have hn := hW.1.n
  unfold m_X6_shownOn
  rw [show ((0 : Int32), (0 : Int32)) = (fun k => (nI (orN (fun p => decide (tpA A p = o)) k), nI k)) 0 from rfl]
  rw [lp_run (step := m_X6_shownOn_L5 w (nI pg) (oI o)) (fun k => (nI (orN (fun p => decide (tpA A p = o)) k), nI k)) (A 0 0) (r := (nI (shA A o), nI (A 0 0)))]
  · rfl
  · intro k hk
    unfold m_X6_shownOn_L5
    dsimp +instances only
    rw [hM.n0, if_neg (nI_ge hk (by omega)), topOn_s hM hW.1 hpg hk, some_bind, ifp (oI_eq (fun s hs => by have := tpA_5 hW (by omega) hs; omega) ho), or0]
    show _ = some (Sum.inl (nI (if decide (tpA A k = o) = true then _ ||| 2 ^ k else _), nI (k + 1)))
    by_cases h : tpA A k = o
    · rw [if_pos h, if_pos (by simp [h]), b_two (by omega), nx_or, nI_1]
    · rw [if_neg h, if_neg (by simp [h]), nI_1]
  · unfold m_X6_shownOn_L5
    dsimp +instances only
    rw [hM.n0, if_pos (nI_le (Nat.le_refl _) (by omega))]
    rfl
theorem finds_s {w : SV} {pg : Nat} {A : AS} (hM : RM w pg A) (hW : WFb A) {s t : Nat} (hs : s < A 0 1) (ht : t < A 0 1) : m_X6_finds w (nI s) (nI t) = some (bI (finA A s t)) := by
  have hn := hW.n
  have b1 := hW.bs s hs
  have b2 := hW.bs t ht
  unfold m_X6_finds
  rw [li_41, li_36, nI_add, nI_add, nI_add, nI_add, inB_nI (by omega) (by omega), inB_nI (by omega) (by omega), inB_nI (by omega) (by omega), inB_nI (by omega) (by omega)]
  simp only [ck_true]
  rw [nI_clamp (by omega), nI_clamp (by omega), nI_clamp (by omega), nI_clamp (by omega), hM.ki hs, hM.ki ht, hM.mi hs, hM.mi ht]
  have hin : m_X6_in ((nI (A 10 s) - nI (A 10 t)).toInt64) (-1) 1 = some (bI (nearA A s t)) := by
    unfold m_X6_in nearA
    have e := pk_sub_toInt (a := A 10 s) (b := A 10 t) (by omega) (by omega)
    have hx : (nI (A 10 s) - nI (A 10 t)).toInt64.toInt = (A 10 s : Int) - A 10 t := by rw [Int32.toInt_toInt64, e]
    have h1 : (1 : Int64).toInt = 1 := rfl
    have h2 : (-1 : Int64).toInt = -1 := rfl
    by_cases c1 : A 10 s + 1 < A 10 t
    · rw [if_pos (by rw [lg_cmp_lt, Int64.lt_iff_toInt_lt, hx, h2]; omega), show decide (A 10 s ≤ A 10 t + 1 ∧ A 10 t ≤ A 10 s + 1) = false from decide_eq_false (by omega)]; rfl
    · rw [if_neg (by rw [lg_cmp_lt, Int64.lt_iff_toInt_lt, hx, h2]; omega)]
      by_cases c2 : A 10 t + 1 < A 10 s
      · rw [if_pos (by rw [lg_cmp_gt, Int64.lt_iff_toInt_lt, hx, h1]; omega), show decide (A 10 s ≤ A 10 t + 1 ∧ A 10 t ≤ A 10 s + 1) = false from decide_eq_false (by omega)]; rfl
      · rw [if_neg (by rw [lg_cmp_gt, Int64.lt_iff_toInt_lt, hx, h1]; omega), show decide (A 10 s ≤ A 10 t + 1 ∧ A 10 t ≤ A 10 s + 1) = true from decide_eq_true (by omega)]; rfl
  rw [hin, some_bind]
  have e1 : (nI (A 9 s) = (3 : Int32)) = (A 9 s = 3) := cast_eq (b := 3) (by omega) (by omega)
  have e2 : (nI (A 9 s) = (2 : Int32)) = (A 9 s = 2) := cast_eq (b := 2) (by omega) (by omega)
  have e3 : (nI (A 9 s) = (1 : Int32)) = (A 9 s = 1) := cast_eq (b := 1) (by omega) (by omega)
  have e4 : (nI (A 9 t) = (1 : Int32)) = (A 9 t = 1) := cast_eq (b := 1) (by omega) (by omega)
  have e5 : (nI (A 10 s) - nI (A 10 t) = (0 : Int32)) = (A 10 s = A 10 t) := by
    refine propext ⟨fun h => ?_, fun h => by rw [h]; exact Int32.sub_self _⟩
    have e := pk_sub_toInt (a := A 10 s) (b := A 10 t) (by omega) (by omega)
    rw [h] at e
    have : (0 : Int32).toInt = 0 := rfl
    omega
  simp only [e1, e2, e3, e4, e5, bI_0]
  unfold finA
  by_cases c3 : A 9 s = 3
  · rw [if_pos c3, if_neg (by omega), if_neg (by omega), if_neg (by omega)]; rfl
  · rw [if_neg c3]
    by_cases c2 : A 9 s = 2
    · rw [if_pos c2, if_neg (show ¬ A 9 s = 0 by omega), if_neg (show ¬ A 9 s = 1 by omega), if_pos c2]
      by_cases c : A 10 s = A 10 t
      · rw [if_pos c]; simp [c, bI]
      · rw [if_neg c]; simp [c, bI]
    · rw [if_neg c2]
      by_cases c1 : A 9 s = 1
      · rw [if_neg (show ¬ A 9 s = 0 by omega), if_pos c1, if_pos c1]
        cases nearA A s t
        · by_cases c4 : A 9 t = 1
          · simp [c4, bI]
          · simp [c4, bI]
        · simp [bI]
      · rw [if_neg c1, if_neg c1, if_pos (show A 9 s = 0 by omega)]
        cases nearA A s t <;> simp [bI]
theorem areLike6_s {w : SV} {pg : Nat} {A : AS} (hM : RM w pg A) (hW : WFb A) {s t : Nat} (hs : s < A 0 1) (ht : t < A 0 1) : m_X6_areLike w (nI s) (nI t) = some (bI (likA A s t)) := by
  have hn := hW.n
  unfold m_X6_areLike
  rw [ifp (cast_eq (by omega) (by omega)), finds_s hM hW hs ht, some_bind, finds_s hM hW ht hs, some_bind, ifp (bI_0 _), ifp (bI_0 _)]
  unfold likA
  by_cases h : s = t
  · simp [h, bI]
  · rw [if_neg h]
    cases finA A s t <;> cases finA A t s <;> simp [h, bI]
theorem isLikeOn_s {w : SV} {pg : Nat} {A : AS} (hM : RM w pg A) (hW : WF A) (hpg : pg ≤ 252) {b : Nat} (hb : b < A 0 2) : m_X6_isLikeOn w (nI pg) (nI b) = some (bI (slA A b)) := by
  have hn := hW.1.n
  have hb2 := hW.2.2 b hb
  unfold m_X6_isLikeOn
  rw [li_2, pk_mul, nI_1, inB_nI (by omega) (by omega), inB_nI (by omega) (by omega)]
  simp only [ck_true]
  rw [nI_clamp (by omega), nI_clamp (by omega), hM.bo hb, hM.bo' hb, topOn_s hM hW.1 hpg hb2.1, some_bind, topOn_s hM hW.1 hpg hb2.2.1, some_bind]
  unfold slA
  rw [ifp (oI_m4 (fun s hs => by have := tpA_5 hW (by omega) hs; omega)), ifp (oI_m4 (fun s hs => by have := tpA_5 hW (by omega) hs; omega))]
  cases h1 : tpA A (A 14 b) with
  | none => rfl
  | some s =>
    rw [if_neg (by simp)]
    cases h2 : tpA A (A 15 b) with
    | none => rfl
    | some t =>
      rw [if_neg (by simp)]
      show (m_X6_areLike w (nI s) (nI t)).bind _ = _
      rw [areLike6_s hM hW.1 (tpA_lt hW (by omega) h1) (tpA_lt hW (by omega) h2), some_bind, ifp (bI_0 _), some_bIf]
theorem likeBondsOn_s {w : SV} {pg : Nat} {A : AS} (hM : RM w pg A) (hW : WF A) (hpg : pg ≤ 252) : m_X6_likeBondsOn w (nI pg) = some (nI (lbA A)) := by
  have hn := hW.1.n
  unfold m_X6_likeBondsOn
  rw [show ((0 : Int32), (0 : Int32)) = (fun k => (nI (sumN (fun b => if slA A b then 1 else 0) k), nI k)) 0 from rfl]
  rw [lp_run (step := m_X6_likeBondsOn_L4 w (nI pg)) (fun k => (nI (sumN (fun b => if slA A b then 1 else 0) k), nI k)) (A 0 2) (r := (nI (lbA A), nI (A 0 2)))]
  · rfl
  · intro k hk
    unfold m_X6_likeBondsOn_L4
    dsimp +instances only
    rw [hM.n2, if_neg (nI_ge hk (by omega)), isLikeOn_s hM hW hpg hk, some_bind, ifp (bI_0 _), ad0]
    show _ = some (Sum.inl (nI (sumN _ k + (if slA A k then 1 else 0)), nI (k + 1)))
    cases slA A k
    · rw [if_pos rfl, nI_1]; rfl
    · rw [if_neg (by simp), nI_1, nI_1]; rfl
  · unfold m_X6_likeBondsOn_L4
    dsimp +instances only
    rw [hM.n2, if_pos (nI_le (Nat.le_refl _) (by omega))]
    rfl
theorem am_of {o : Option Nat} {m : Nat} : (if amA o m then (1 : Nat) else 0) = match o with | none => 0 | some s => if m.testBit s then 1 else 0 := by cases o <;> rfl
theorem valueOn_s {w : SV} {pg : Nat} {A : AS} (hM : RM w pg A) (hW : WF A) (hpg : pg ≤ 252) {m : Nat} (hm : m < 2 ^ 31) : m_X6_valueOn w (nI pg) (nI m) = some (nI (valA A m)) := by
  have hn := hW.1.n
  have hL2 : lpC (m_X6_valueOn_L62 w (nI pg) (nI m)) (nI (sumN (v1A A m) (A 0 0)), (0 : Int32)) = some (nI (valA A m), nI (A 0 2)) := by
    rw [show (nI (sumN (v1A A m) (A 0 0)), (0 : Int32)) = (fun k => (nI (sumN (v1A A m) (A 0 0) + sumN (v2A A m) k), nI k)) 0 from rfl]
    refine lp_run (step := m_X6_valueOn_L62 w (nI pg) (nI m)) (fun k => (nI (sumN (v1A A m) (A 0 0) + sumN (v2A A m) k), nI k)) (A 0 2) ?_ ?_
    · intro k hk
      have hb2 := hW.2.2 k hk
      have e6 := hW.1.b6 (A 14 k) (by omega)
      have e7 := hW.1.b6 (A 15 k) (by omega)
      unfold m_X6_valueOn_L62
      dsimp +instances only
      rw [hM.n2, if_neg (nI_ge hk (by omega)), li_2, pk_mul, nI_1, nI_1, inB_nI (by omega) (by omega), inB_nI (by omega) (by omega)]
      simp only [ck_true]
      rw [nI_clamp (by omega), nI_clamp (by omega), hM.bo hk, hM.bo' hk, topOn_s hM hW.1 hpg hb2.1, topOn_s hM hW.1 hpg hb2.2.1, isLikeOn_s hM hW hpg hk, some_bind, worthOf_s hM hW.1 hb2.1, worthOf_s hM hW.1 hb2.2.1]
      simp only [some_bind]
      rw [ifp (bI_0 _)]
      show _ = some (Sum.inl (nI (sumN (v1A A m) (A 0 0) + (sumN (v2A A m) k + v2A A m k)), nI (k + 1)))
      rw [← Nat.add_assoc, ← nI_add _ (v2A A m k)]
      have z0 : ∀ x : Int32, x + nI 0 = x := fun x => by rw [nI_0, Int32.add_zero]
      unfold v2A
      cases hsl : slA A k
      · rw [if_pos rfl, Bool.and_false, Bool.and_false, if_neg (by simp), z0]
      · rw [if_neg (by simp), Bool.and_true]
        unfold slA at hsl
        cases h1 : tpA A (A 14 k) with
        | none => rw [h1] at hsl; simp at hsl
        | some s =>
          cases h2 : tpA A (A 15 k) with
          | none => rw [h1, h2] at hsl; simp at hsl
          | some t =>
            have hs5 := tpA_5 hW (by omega) h1
            have ht5 := tpA_5 hW (by omega) h2
            show (if (nI m >>> (nI s &&& 31)) &&& (1 : Int32) = (1 : Int32) then _ else _) = _
            rw [ifp (b_t1 hm (s := s) (by omega))]
            show (if m.testBit s = true then (if (nI m >>> (nI t &&& 31)) &&& (1 : Int32) = (1 : Int32) then _ else _) else _) = _
            rw [ifp (b_t1 hm (s := t) (by omega)), ifp (cast_le (a := A 6 (A 15 k)) (b := A 6 (A 14 k)) (by omega) (by omega))]
            unfold amA
            dsimp +instances only
            cases hb1 : m.testBit s
            · simp [z0]
            · cases hb3 : m.testBit t
              · simp [z0]
              · simp only [Bool.and_self, if_true]
                by_cases hc : A 6 (A 15 k) < A 6 (A 14 k)
                · rw [if_pos (by omega), if_pos hc]
                · rw [if_neg hc]
                  by_cases hc2 : A 6 (A 15 k) ≤ A 6 (A 14 k)
                  · rw [if_pos hc2, show A 6 (A 15 k) = A 6 (A 14 k) by omega]
                  · rw [if_neg hc2]
    · unfold m_X6_valueOn_L62
      dsimp +instances only
      rw [hM.n2, if_pos (nI_le (Nat.le_refl _) (by omega))]
      rfl
  unfold m_X6_valueOn
  rw [show ((0 : Int32), (0 : Int32)) = (fun k => (nI (sumN (v1A A m) k), nI k)) 0 from rfl]
  rw [lp_run (step := m_X6_valueOn_L5 w (nI pg) (nI m)) (fun k => (nI (sumN (v1A A m) k), nI k)) (A 0 0) (r := (nI (sumN (v1A A m) (A 0 0)), nI (A 0 0)))]
  · rw [some_bind]
    unfold m_X6_valueOn_K5
    dsimp +instances only
    rw [hL2]
    rfl
  · intro k hk
    unfold m_X6_valueOn_L5
    dsimp +instances only
    rw [hM.n0, if_neg (nI_ge hk (by omega)), topOn_s hM hW.1 hpg hk, some_bind, worthOf_s hM hW.1 hk, some_bind, ad0, nI_1, nI_add]
    show _ = some (Sum.inl (nI (sumN (v1A A m) k + v1A A m k), nI (k + 1)))
    unfold v1A
    rw [ifp (oI_m4 (fun s hs => by have := tpA_5 hW (by omega) hs; omega))]
    cases h1 : tpA A k with
    | none => rfl
    | some s =>
      have hs5 := tpA_5 hW (by omega) h1
      rw [if_neg (by simp)]
      show (if (nI m >>> (nI s &&& 31)) &&& (1 : Int32) = (1 : Int32) then _ else _) = _
      rw [ifp (b_t1 hm (s := s) (by omega))]
      unfold amA
      dsimp +instances only
      cases m.testBit s
      · rfl
      · rfl
  · unfold m_X6_valueOn_L5
    dsimp +instances only
    rw [hM.n0, if_pos (nI_le (Nat.le_refl _) (by omega))]
theorem paidOn_s {w : SV} {pg : Nat} {A : AS} (hM : RM w pg A) (hW : WF A) (hpg : pg ≤ 252) {s : Nat} (hs : s < A 0 1) : m_X6_paidOn w (nI pg) (nI s) = some (nI (inA A s)) := by
  have hn := hW.1.n
  have bs := hW.1.bs s hs
  have hsh : shA A (some s) < 2 ^ 31 := by
    have := orN_lt (fun p => decide (tpA A p = some s)) (A 0 0)
    have := p2_5 (n := A 0 0) (by omega)
    unfold shA
    omega
  unfold m_X6_paidOn
  rw [show nI s = oI (some s) from rfl, shownOn_s hM hW hpg (fun t ht => by cases ht; omega), some_bind]
  rw [show ((0 : Int32), (0 : Int32)) = (fun k => (nI (sumN (fun p => if tpA A p = some s then A 6 p else 0) k), nI k)) 0 from rfl]
  rw [lp_run (step := m_X6_paidOn_L13 w (nI (shA A (some s)))) (fun k => (nI (sumN (fun p => if tpA A p = some s then A 6 p else 0) k), nI k)) (A 0 0) (r := (nI (in0A A s), nI (A 0 0)))]
  · have h9 := in0A_le hW.1 s
    rw [some_bind]
    unfold m_X6_paidOn_K13 inA
    dsimp +instances only
    rw [show oI (some s) = nI s from rfl, li_36, nI_add, inB_nI (by omega) (by omega), ck_true, nI_clamp (by omega), hM.ki hs]
    rw [li_2, ifp (cast_eq (by omega) (by omega)), pk_div (by omega) (by omega) (by omega), some_if]
    split <;> rfl
  · intro k hk
    unfold m_X6_paidOn_L13
    dsimp +instances only
    rw [hM.n0, if_neg (nI_ge hk (by omega)), ifp (b_t1 hsh (s := k) (by omega)), worthOf_s hM hW.1 hk, some_bind, ad0, nI_1, nI_add]
    show _ = some (Sum.inl (nI (sumN _ k + (if tpA A k = some s then A 6 k else 0)), nI (k + 1)))
    have e : (shA A (some s)).testBit k = decide (tpA A k = some s) := by
      unfold shA
      rw [orN_tb]
      simp [hk]
    rw [e]
    by_cases h : tpA A k = some s
    · rw [if_pos (decide_eq_true h), if_pos h]
    · rw [if_neg (by simp [h]), if_neg h]; rfl
  · unfold m_X6_paidOn_L13
    dsimp +instances only
    rw [hM.n0, if_pos (nI_le (Nat.le_refl _) (by omega))]
    rfl
