/-! ===== PURE: even, next, value, drift, looks: the class's side ===== -/
theorem fill_s {n : Nat} (hn : n < 2 ^ 31) (f : Nat → Int32) (x : Int32) : m_J7_fill_53178 n f x = some (fun i => if i < n then x else f i) := by
  unfold m_J7_fill_53178
  have e0 : ((0 : Int32), f) = (fun k => (nI k, fun i => if i < k then x else f i)) 0 := by
    show _ = (nI 0, _)
    congr 1
  rw [e0, lp_run (step := m_J7_fill_53178_L5 n x) (fun k => (nI k, fun i => if i < k then x else f i)) n (r := (nI n, fun i => if i < n then x else f i))]
  · rfl
  · intro k hk
    unfold m_J7_fill_53178_L5
    dsimp +instances only
    rw [show Int32.ofNat n = nI n from rfl, if_neg (nI_ge hk hn), inB_nI hk hn, ck_true, nI_clamp (by omega), lett_eq, nI_1]
    congr 3
    funext i
    unfold upd
    by_cases h : i = k
    · subst h; rw [if_pos rfl, if_pos (Nat.lt_succ_self i)]
    · rw [if_neg h]
      dsimp only
      by_cases h2 : i < k
      · rw [if_pos h2, if_pos (show i < k + 1 by omega)]
      · rw [if_neg h2, if_neg (show ¬ i < k + 1 by omega)]
  · unfold m_J7_fill_53178_L5
    dsimp +instances only
    rw [show Int32.ofNat n = nI n from rfl, if_pos (nI_le (Nat.le_refl _) hn)]
/-- the class's own row of what each had -/
theorem ahha_s {v0 vt : SV} {T : AS} {h : Nat → Nat} (hR : RepC vt T) (hW : WF T) (h8 : ∀ s, s < T 0 1 → v0 8 s = nI (h s)) (hb : ∀ s, h s ≤ 10000) : ∃ v', m_X5_allHaveHadAlike v0 vt = some (bI (allN (fun s => decide (h s + inA T s = h 0 + inA T 0)) (T 0 1)), v') ∧ (∀ s, s < T 0 1 → v' 8 s = nI (h s + inA T s)) ∧ (∀ r, r ≠ 8 → v' r = v0 r) := by
  have hn := hW.1.n
  unfold m_X5_allHaveHadAlike
  have := lp_inv (step := m_X5_allHaveHadAlike_L4 vt) (fun k z => z.1 = bI (allN (fun s => decide (h s + inA T s = h 0 + inA T 0)) k) ∧ z.2.1 = nI k ∧ (∀ s, s < T 0 1 → z.2.2 8 s = nI (if s < k then h s + inA T s else h s)) ∧ (∀ r, r ≠ 8 → z.2.2 r = v0 r)) (fun r => r.1 = bI (allN (fun s => decide (h s + inA T s = h 0 + inA T 0)) (T 0 1)) ∧ (∀ s, s < T 0 1 → r.2.2 8 s = nI (h s + inA T s)) ∧ (∀ j, j ≠ 8 → r.2.2 j = v0 j)) (T 0 1) ?_ ?_ (s0 := ((1 : Int32), (0 : Int32), v0)) ⟨rfl, rfl, fun s hs => by rw [if_neg (Nat.not_lt_zero s)]; exact h8 s hs, fun r hr => rfl⟩
  · obtain ⟨r, hr, h1, h2, h3⟩ := this
    rw [hr, some_bind]
    unfold m_X5_allHaveHadAlike_K4
    rw [h1, nz_bI, ck_true]
    exact ⟨_, rfl, h2, h3⟩
  · rintro k ⟨z1, z2, z3⟩ hk ⟨e1, e2, e3, e4⟩
    dsimp only at e1 e2 e3 e4
    subst e1 e2
    left
    have i1 := inA_le hW.1 k
    have i2 := inA_le hW.1 0
    have b1 := hb k
    have b2 := hb 0
    have ek := e3 k hk
    rw [if_neg (Nat.lt_irrefl k)] at ek
    have key : up2 z3 8 k (nI (h k + inA T k)) 8 0 = nI (h 0 + inA T 0) := by
      by_cases hk0 : k = 0
      · subst hk0; rw [up2_ss]
      · rw [up2_si (by omega), e3 0 (by omega), if_pos (by omega)]
    unfold m_X5_allHaveHadAlike_L4
    dsimp +instances only
    rw [hR.n (j := 1) (by omega), if_neg (nI_ge hk (by omega)), inB_nI (by omega) (by omega), ck_true, income_s hR hW hk, some_bind, ck_true, nI_clamp (by omega), ek, nI_add, lett_eq, ck_true, show Int32.toNatClampNeg 0 = 0 from rfl, key, up2_ss, ifp (bI_0 _), ifp (cast_eq (by omega) (by omega)), nI_1]
    have hrows : (∀ s, s < T 0 1 → up2 z3 8 k (nI (h k + inA T k)) 8 s = nI (if s < k + 1 then h s + inA T s else h s)) := by
      intro s hs
      by_cases hsk : s = k
      · subst hsk; rw [up2_ss, if_pos (Nat.lt_succ_self s)]
      · rw [up2_si hsk, e3 s hs]
        by_cases h2 : s < k
        · rw [if_pos h2, if_pos (show s < k + 1 by omega)]
        · rw [if_neg h2, if_neg (show ¬ s < k + 1 by omega)]
    have hoth : ∀ r, r ≠ 8 → up2 z3 8 k (nI (h k + inA T k)) r = v0 r := fun r hr => by rw [up2_n hr, e4 r hr]
    show ∃ s' : Int32 × Int32 × SV, _ = _ ∧ s'.1 = bI (allN _ k && decide (h k + inA T k = h 0 + inA T 0)) ∧ _
    cases ha : allN (fun s => decide (h s + inA T s = h 0 + inA T 0)) k
    · rw [if_pos rfl]
      exact ⟨_, rfl, rfl, rfl, hrows, hoth⟩
    · rw [if_neg (by simp)]
      by_cases hc : h k + inA T k = h 0 + inA T 0
      · rw [if_pos hc]
        exact ⟨_, rfl, by simp [hc, bI], rfl, hrows, hoth⟩
      · rw [if_neg hc]
        exact ⟨_, rfl, by simp [hc, bI], rfl, hrows, hoth⟩
  · rintro ⟨z1, z2, z3⟩ ⟨e1, e2, e3, e4⟩
    dsimp only at e1 e2 e3 e4
    subst e1 e2
    unfold m_X5_allHaveHadAlike_L4
    dsimp +instances only
    rw [hR.n (j := 1) (by omega), if_pos (nI_le (Nat.le_refl _) (by omega))]
    exact ⟨_, rfl, rfl, fun s hs => by dsimp only; rw [e3 s hs, if_pos hs], e4⟩
theorem hdA_le {A : AS} (hW : WF A) {d : Nat} (hd : A 0 4 + d ≤ 100000) (h60 : d ≤ 60) (s : Nat) : hdA A d s ≤ 3240 := by
  have := sumN_leN (f := fun k => inA (dyN A (k + 1)) s) (b := 54) d (fun k hk => inA_le (WF_dyN hW (k + 1) (by omega)).1 s)
  have : d * 54 ≤ 60 * 54 := Nat.mul_le_mul_right 54 h60
  unfold hdA
  omega
theorem even_s (v0 v2 : SV) {v : SV} {A : AS} (hR : RepC v A) (hW : WF A) (hd : A 0 4 < 1000) : ∃ v0' v', m_X5_even v0 v v2 = some (evA A, v0', v') ∧ ∀ r, r ≠ 8 → v0' r = v0 r := by
  have hn := hW.1.n
  unfold m_X5_even evA
  rw [hR.n (j := 1) (by omega), show (0 : Int32) = nI 0 from rfl, ifp (cast_eq (by omega) (by omega))]
  by_cases h0 : A 0 1 = 0
  · rw [if_pos h0, if_pos h0]
    exact ⟨_, _, rfl, fun r _ => rfl⟩
  · rw [if_neg h0, if_neg h0]
    obtain ⟨vt, h1, h2⟩ := becomes_s v2 hR
    rw [h1, some_bind, fill_s (by omega), some_bind, lett_eq]
    have := lp_inv (step := m_X5_even_L34) (fun k z => z.1 = nI (k + 1) ∧ RepC z.2.2 (dyN A k) ∧ (∀ s, s < A 0 1 → z.2.1 8 s = nI (hdA A k s)) ∧ (∀ r, r ≠ 8 → z.2.1 r = v0 r) ∧ ∀ j, j < k → allN (fun s => decide (hdA A (j + 1) s = hdA A (j + 1) 0)) (A 0 1) = false) (fun r => ∃ v9 v8, (Sum.elim m_X5_even_K34 (fun y => some y)) r = some (d1R (firstN (fun d => allN (fun s => decide (hdA A (d + 1) s = hdA A (d + 1) 0)) (A 0 1)) 60), v9, v8) ∧ ∀ r, r ≠ 8 → v9 r = v0 r) 60 ?_ ?_ (s0 := ((1 : Int32), upr v0 8 (fun i => if i < 5 then nI 0 else v0 8 i), vt)) ⟨rfl, h2, fun s hs => by dsimp only; rw [upr_s, if_pos (by omega)]; rfl, fun r hr => by dsimp only; rw [upr_n hr], fun j hj => absurd hj (Nat.not_lt_zero j)⟩
    · obtain ⟨r, hr, v9, v8, hP, hQ⟩ := this
      refine ⟨v9, v8, ?_, hQ⟩
      exact Eq.trans (congrArg (fun o => Option.bind o _) hr) hP
    · rintro k ⟨z1, z2, z3⟩ hk ⟨e1, hI, h8, ho, hno⟩
      dsimp only at e1 hI h8 ho hno
      subst e1
      have hWk := WF_dyN hW k (by omega)
      have hWk1 := WF_dyN hW (k + 1) (by omega)
      obtain ⟨v3, h3, h4⟩ := passDay_s hI hWk
      have e01 : dyN A (k + 1) 0 1 = A 0 1 := dyN_0 (by decide) (by decide) (k + 1)
      have hdl := fun s => hdA_le hW (d := k) (by omega) (by omega) s
      obtain ⟨v4, h5, h6, h7⟩ := ahha_s (v0 := z2) (h := hdA A k) h4 hWk1 (fun s hs => h8 s (by rw [← e01]; exact hs)) (fun s => by have := hdl s; omega)
      have e01' : dyA (dyN A k) 0 1 = A 0 1 := e01
      rw [e01'] at h5 h6
      unfold m_X5_even_L34
      dsimp +instances only
      rw [show (60 : Int32) = nI 60 from rfl, if_neg (nI_nlt (by omega) (by omega)), h3, some_bind]
      dsimp +instances only
      rw [h5, some_bind]
      dsimp +instances only
      rw [ifp (bI_0 _), nI_1]
      have hoth : ∀ r, r ≠ 8 → v4 r = v0 r := fun r hr => by rw [h7 r hr, ho r hr]
      have hsame : (fun s => decide (hdA A k s + inA (dyA (dyN A k)) s = hdA A k 0 + inA (dyA (dyN A k)) 0)) = (fun s => decide (hdA A (k + 1) s = hdA A (k + 1) 0)) := rfl
      rw [hsame]
      cases hc : allN (fun s => decide (hdA A (k + 1) s = hdA A (k + 1) 0)) (A 0 1)
      · left
        rw [if_pos rfl]
        refine ⟨_, rfl, rfl, h4, h6, hoth, ?_⟩
        intro j hj
        by_cases hjk : j = k
        · subst hjk; exact hc
        · exact hno j (by omega)
      · right
        rw [if_neg (by simp)]
        refine ⟨_, rfl, v4, v3, ?_, hoth⟩
        rw [firstN_of hk hc hno]
        rfl
    · rintro ⟨z1, z2, z3⟩ ⟨e1, hI, h8, ho, hno⟩
      dsimp only at e1 hI h8 ho hno
      subst e1
      unfold m_X5_even_L34
      dsimp +instances only
      rw [show (60 : Int32) = nI 60 from rfl, if_pos (nI_lt (by omega) (by omega))]
      refine ⟨_, rfl, z2, z3, ?_, ho⟩
      cases hf : firstN (fun d => allN (fun s => decide (hdA A (d + 1) s = hdA A (d + 1) 0)) (A 0 1)) 60 with
      | none => rfl
      | some j => have := firstN_some hf; rw [hno j this.1] at this; cases this.2.1
/-! next -/
theorem slA_c {A B : AS} {b : Nat} (h14 : A 14 = B 14) (h15 : A 15 = B 15) (h9 : A 9 = B 9) (h10 : A 10 = B 10) (h1 : tpA A (A 14 b) = tpA B (A 14 b)) (h2 : tpA A (A 15 b) = tpA B (A 15 b)) : slA A b = slA B b := by
  unfold slA
  rw [← h14, ← h15, h1, h2]
  have : likA A = likA B := by
    funext s t
    unfold likA finA nearA
    rw [h9, h10]
  rw [this]
theorem lbA_c {A B : AS} (hW : WF A) (h0 : A 0 2 = B 0 2) (h14 : A 14 = B 14) (h15 : A 15 = B 15) (h9 : A 9 = B 9) (h10 : A 10 = B 10) (ht : ∀ q, q < 6 → tpA A q = tpA B q) : lbA A = lbA B := by
  have hn := hW.1.n
  unfold lbA
  rw [← h0]
  refine sumN_congr _ (fun b hb => ?_)
  have h := hW.2.2 b hb
  rw [slA_c h14 h15 h9 h10 (ht _ (by omega)) (ht _ (by omega))]
theorem lbA_le {A : AS} (hW : WFb A) : lbA A ≤ 5 := by
  have hn := hW.n
  have := sumN_leN (f := fun b => if slA A b then 1 else 0) (b := 1) (A 0 2) (fun k _ => by split <;> omega)
  unfold lbA
  omega
def nxS (A : AS) (p s : Nat) (st : Option (Nat × Nat)) : Option (Nat × Nat) := match st with
  | none => some (lbA (covA A p s), 10 * p + s)
  | some bc => if bc.1 < lbA (covA A p s) then some (lbA (covA A p s), 10 * p + s) else some bc
def nxI (A : AS) (p : Nat) (st : Option (Nat × Nat)) : Nat → Option (Nat × Nat) := itn (nxS A p) st
def nxA (A : AS) : Nat → Option (Nat × Nat) := itn (fun p st => nxI A p st (A 0 1)) none
def nxR (A : AS) (x : Int32) : Int32 := match ix x 2 with
  | none => -1
  | some w => match nxA A (A 0 0) with
    | none => -4
    | some bc => if w = 0 then nI bc.2 else nI bc.1
def nB (z : Int32) (st : Option (Nat × Nat)) : Int32 := match st with
  | none => z
  | some bc => nI bc.1
def nC (st : Option (Nat × Nat)) : Int32 := match st with
  | none => -4
  | some bc => nI bc.2
def nOk (st : Option (Nat × Nat)) : Prop := ∀ bc, st = some bc → bc.1 ≤ 5
theorem nOk_S {A : AS} (hW : WF A) {p s : Nat} (hp : p < 6) (hs : s < A 0 1) {st : Option (Nat × Nat)} (h : nOk st) : nOk (nxS A p s st) := by
  intro bc hbc
  have := lbA_le (WF_cov hW hp hs).1
  unfold nxS at hbc
  cases st with
  | none => cases hbc; exact this
  | some q =>
    dsimp only at hbc
    split at hbc
    · cases hbc; exact this
    · cases hbc; exact h _ rfl
def TrA (A T : AS) (p : Nat) : Prop := T 0 = A 0 ∧ T 6 = A 6 ∧ T 9 = A 9 ∧ T 10 = A 10 ∧ T 14 = A 14 ∧ T 15 = A 15 ∧ ∀ q, q < 6 → q ≠ p → tpA T q = tpA A q
theorem TrA_cov {A T : AS} {p s : Nat} (h : TrA A T p) (hW : WF T) (hp : p < 6) : TrA A (covA T p s) p := by
  obtain ⟨a1, a2, a3, a4, a5, a6, a7⟩ := h
  unfold TrA
  rw [covA_r (by decide) (by decide), covA_r (by decide) (by decide), covA_r (by decide) (by decide), covA_r (by decide) (by decide), covA_r (by decide) (by decide), covA_r (by decide) (by decide)]
  exact ⟨a1, a2, a3, a4, a5, a6, fun q hq hqp => by rw [covA_tp hW.1 hp hq, if_neg hqp, a7 q hq hqp]⟩
theorem TrA_lb {A T : AS} {p s : Nat} (h : TrA A T p) (hW : WF T) (hWA : WF A) (hp : p < 6) (hs : s < A 0 1) : lbA (covA T p s) = lbA (covA A p s) := by
  obtain ⟨a1, a2, a3, a4, a5, a6, a7⟩ := h
  refine lbA_c (WF_cov hW hp (by rw [a1]; exact hs)) ?_ ?_ ?_ ?_ ?_ ?_
  all_goals try rw [covA_r (by decide) (by decide), covA_r (by decide) (by decide)]
  · rw [a1]
  · exact a5
  · exact a6
  · exact a3
  · exact a4
  · intro q hq
    rw [covA_tp hW.1 hp hq, covA_tp hWA.1 hp hq]
    by_cases hqp : q = p
    · rw [if_pos hqp, if_pos hqp]
    · rw [if_neg hqp, if_neg hqp, a7 q hq hqp]
theorem next_s (v0 v2 : SV) {v : SV} {A : AS} (hR : RepC v A) (hW : WF A) (x : Int32) : ∃ v', m_X5_next v0 v v2 x = some (nxR A x, v') := by
  have hn := hW.1.n
  unfold m_X5_next nxR
  rw [within_s (k := 2) (by decide) (by omega), some_bind]
  cases h1 : ix x 2 with
  | none => exact ⟨v2, rfl⟩
  | some w =>
    obtain ⟨rfl, hw⟩ := ix_some h1
    simp only [Option.isSome_some, bI, if_true, ne10, if_false]
    have := lp_inv (step := m_X5_next_L20 v) (fun k z => z.1 = nB (-4) (nxA A k) ∧ z.2.1 = nC (nxA A k) ∧ z.2.2.1 = nI k ∧ nOk (nxA A k)) (fun r => r.1 = nB (-4) (nxA A (A 0 0)) ∧ r.2.1 = nC (nxA A (A 0 0))) (A 0 0) ?_ ?_ (s0 := ((-4 : Int32), (-4 : Int32), (0 : Int32), v2)) ⟨rfl, rfl, rfl, fun bc h => by cases h⟩
    · obtain ⟨r, hr, e1, e2⟩ := this
      rw [hr, some_bind]
      unfold m_X5_next_K20
      rw [e1, e2]
      have e : (nI w = (0 : Int32)) = (w = 0) := cast_eq (b := 0) (by omega) (by omega)
      simp only [e]
      cases nxA A (A 0 0) with
      | none => split <;> exact ⟨_, rfl⟩
      | some bc => dsimp only; split <;> exact ⟨_, rfl⟩
    · rintro k ⟨z1, z2, z3, z4⟩ hk ⟨e1, e2, e3, e4⟩
      dsimp only at e1 e2 e3
      subst e1 e2 e3
      left
      unfold m_X5_next_L20
      dsimp +instances only
      obtain ⟨vt, h2, h3⟩ := becomes_s z4 hR
      rw [hR.n (j := 0) (by omega), if_neg (nI_ge hk (by omega)), h2, some_bind]
      have := lp_inv (step := m_X5_next_L46 v (nB (-4) (nxA A k), nC (nxA A k), nI k, z4)) (fun j z => z.1 = nB (-4) (nxI A k (nxA A k) j) ∧ z.2.1 = nC (nxI A k (nxA A k) j) ∧ z.2.2.1 = nI j ∧ nOk (nxI A k (nxA A k) j) ∧ ∃ T, RepC z.2.2.2 T ∧ WF T ∧ TrA A T k) (fun r => r.1 = nB (-4) (nxA A (k + 1)) ∧ r.2.1 = nC (nxA A (k + 1)) ∧ nOk (nxA A (k + 1))) (A 0 1) ?_ ?_ (s0 := (nB (-4) (nxA A k), nC (nxA A k), (0 : Int32), vt)) ⟨rfl, rfl, rfl, e4, A, h3, hW, rfl, rfl, rfl, rfl, rfl, rfl, fun _ _ _ => rfl⟩
      · obtain ⟨r, hr, f1, f2, f3⟩ := this
        rw [hr, some_bind]
        unfold m_X5_next_K46
        dsimp only
        rw [nI_1]
        exact ⟨_, rfl, f1, f2, rfl, f3⟩
      · rintro j ⟨z1, z2, z3, z5⟩ hj ⟨g1, g2, g3, g4, T, g5, g6, g7⟩
        dsimp only at g1 g2 g3 g5
        subst g1 g2 g3
        left
        unfold m_X5_next_L46
        dsimp +instances only
        obtain ⟨v6, h6, h7⟩ := cover_s (s := j) g5 g6.1 (p := k) (by omega)
        have hWc := WF_cov g6 (p := k) (s := j) (by omega) (by rw [g7.1]; exact hj)
        have hT := TrA_lb g7 g6 hW (p := k) (by omega) hj
        have hl := lbA_le (WF_cov hW (p := k) (s := j) (by omega) hj).1
        rw [hR.n (j := 1) (by omega), if_neg (nI_ge hj (by omega)), h6, some_bind, likeBonds_s h7 hWc, some_bind, hT, nI_1, show (10 : Int32) = nI 10 from rfl, pk_mul, nI_add]
        have hok := nOk_S hW (p := k) (s := j) (by omega) hj g4
        have hTc := TrA_cov (s := j) g7 g6 (by omega)
        show ∃ s' : Int32 × Int32 × Int32 × SV, _ = _ ∧ s'.1 = nB (-4) (nxS A k j (nxI A k (nxA A k) j)) ∧ s'.2.1 = nC (nxS A k j (nxI A k (nxA A k) j)) ∧ _ = _ ∧ nOk (nxS A k j (nxI A k (nxA A k) j)) ∧ _
        generalize hst : nxI A k (nxA A k) j = st at g4 hok
        unfold nxS at hok ⊢
        cases st with
        | none =>
          have : ¬ nI (lbA (covA A k j)) ≤ nB (-4) none := by
            intro h
            rw [Int32.le_iff_toInt_le, nI_toInt (by omega)] at h
            have : (nB (-4) none).toInt = -4 := rfl
            omega
          rw [if_neg this]
          exact ⟨_, rfl, rfl, rfl, rfl, hok, _, h7, hWc, hTc⟩
        | some bc =>
          have hb5 := g4 bc rfl
          have e : (nI (lbA (covA A k j)) ≤ nB (-4) (some bc)) = (lbA (covA A k j) ≤ bc.1) := cast_le (b := bc.1) (by omega) (by omega)
          rw [ifp e]
          dsimp only at hok ⊢
          by_cases hc : bc.1 < lbA (covA A k j)
          · rw [if_pos hc] at hok
            rw [if_pos hc, if_neg (by omega)]
            exact ⟨_, rfl, rfl, rfl, rfl, hok, _, h7, hWc, hTc⟩
          · rw [if_neg hc] at hok
            rw [if_neg hc, if_pos (by omega)]
            exact ⟨_, rfl, rfl, rfl, rfl, hok, _, h7, hWc, hTc⟩
      · rintro ⟨z1, z2, z3, z5⟩ ⟨g1, g2, g3, g4, g5⟩
        dsimp only at g1 g2 g3
        subst g1 g2 g3
        unfold m_X5_next_L46
        dsimp +instances only
        rw [hR.n (j := 1) (by omega), if_pos (nI_le (Nat.le_refl _) (by omega))]
        exact ⟨_, rfl, rfl, rfl, g4⟩
    · rintro ⟨z1, z2, z3, z4⟩ ⟨e1, e2, e3, e4⟩
      dsimp only at e1 e2 e3
      subst e1 e2 e3
      unfold m_X5_next_L20
      dsimp +instances only
      rw [hR.n (j := 0) (by omega), if_pos (nI_le (Nat.le_refl _) (by omega))]
      exact ⟨_, rfl, rfl, rfl⟩
/-! value -/
def vaA (A : AS) (x : Int32) : Int32 := match ix x (2 ^ A 0 1) with
  | none => -1
  | some m => nI (valA A m)
theorem p2_5 {n : Nat} (h : n ≤ 6) : 1 ≤ 2 ^ n ∧ 2 ^ n ≤ 64 := ⟨Nat.two_pow_pos n, p2_le h⟩
theorem value_s (v0 : SV) {v : SV} {A : AS} (hR : RepC v A) (hW : WF A) (x : Int32) : m_X5_value v0 v x = some (vaA A x) := by
  have hn := hW.1.n
  have h2 := p2_5 (n := A 0 1) (by omega)
  unfold m_X5_value vaA
  rw [everybody_s hR hW.1, some_bind, within_s (k := 2 ^ A 0 1) (by rw [show (1 : Int32) = nI 1 from rfl, pk_sub h2.1]) (by omega), some_bind]
  cases h1 : ix x (2 ^ A 0 1) with
  | none => rfl
  | some m =>
    obtain ⟨rfl, hm⟩ := ix_some h1
    simp only [Option.isSome_some, bI, if_true, ne10, if_false]
    rw [valueOf_s hR hW (by omega), some_bind]
/-! drift -/
def ix1 (x : Int32) (n : Nat) : Option Nat := if 1 ≤ x.toInt ∧ x.toInt < (n : Int) then some x.toInt.toNat else none
theorem ix1_some {x : Int32} {n p : Nat} (h : ix1 x n = some p) : x = nI p ∧ p < n ∧ 1 ≤ p := by
  unfold ix1 at h
  split at h
  · rename_i hc
    cases h
    refine ⟨?_, by omega, by omega⟩
    apply Int32.toInt_inj.mp
    have : x.toInt < 2 ^ 31 := Int32.toInt_lt x
    rw [nI_toInt (by omega)]
    omega
  · cases h
theorem within1_s {x K : Int32} {k : Nat} (hK : K.toInt = (k : Int) - 1) : m_X5_within x 1 K = some (bI (ix1 x k).isSome) := by
  unfold m_X5_within ix1
  have h1 : (1 : Int32).toInt = 1 := rfl
  by_cases hc : 1 ≤ x.toInt ∧ x.toInt < (k : Int)
  · rw [if_pos hc, if_neg (by rw [Int32.lt_iff_toInt_lt, h1]; omega), if_neg (by rw [Int32.lt_iff_toInt_lt, hK]; omega)]; rfl
  · rw [if_neg hc]
    by_cases h2 : x < 1
    · rw [if_pos h2]; rfl
    · rw [if_neg h2]
      rw [Int32.lt_iff_toInt_lt, h1] at h2
      rw [if_pos (by rw [Int32.lt_iff_toInt_lt, hK]; omega)]; rfl
theorem in1_s {x : Int32} {K : Int64} {k : Nat} (hK : K.toInt = (k : Int) - 1) : m_X6_in x.toInt64 1 K = some (bI (ix1 x k).isSome) := by
  unfold m_X6_in ix1
  have h1 : (1 : Int64).toInt = 1 := rfl
  have hx : x.toInt64.toInt = x.toInt := Int32.toInt_toInt64 x
  by_cases hc : 1 ≤ x.toInt ∧ x.toInt < (k : Int)
  · rw [if_pos hc, if_neg (by rw [lg_cmp_lt, Int64.lt_iff_toInt_lt, h1]; omega), if_neg (by rw [lg_cmp_gt, Int64.lt_iff_toInt_lt, hK]; omega)]; rfl
  · rw [if_neg hc]
    by_cases h2 : x.toInt < 1
    · rw [if_pos (by rw [lg_cmp_lt, Int64.lt_iff_toInt_lt, h1]; omega)]; rfl
    · rw [if_neg (by rw [lg_cmp_lt, Int64.lt_iff_toInt_lt, h1]; omega), if_pos (by rw [lg_cmp_gt, Int64.lt_iff_toInt_lt, hK]; omega)]; rfl
def flI (z : Int32) : Int32 := (z * (1103515245 : Int32)) + (12345 : Int32)
def dwN (z : Int32) : Nat := z.toBitVec.toNat / 65536 % 32768
theorem dwN_lt (z : Int32) : dwN z < 32768 := Nat.mod_lt _ (by decide)
theorem drawn_s (z : Int32) : m_X5_drawn z = some (nI (dwN z)) := by
  unfold m_X5_drawn dwN
  rw [pk_and _ (m := 32767) 15 (by decide), pk_ushr z 16 16 (by decide)]
theorem asr_s (z : Int32) : (z >>> ((16 : Int32) &&& 31)) &&& (32767 : Int32) = nI (dwN z) := by
  rw [pk_and _ (m := 32767) 15 (by decide)]
  unfold dwN
  congr 1
  have h := pk_shr z ((16 : Int32) &&& 31) 16 (by decide)
  generalize (z >>> ((16 : Int32) &&& 31)) = y at h ⊢
  have hy : y.toInt = y.toBitVec.toInt := rfl
  have hz : z.toInt = z.toBitVec.toInt := rfl
  rw [hy, hz, BitVec.toInt_eq_toNat_cond, BitVec.toInt_eq_toNat_cond, Int.shiftRight_eq_div_pow] at h
  have hy2 := y.toBitVec.isLt
  have hz2 := z.toBitVec.isLt
  generalize y.toBitVec.toNat = a at h hy2 ⊢
  generalize z.toBitVec.toNat = b at h hz2 ⊢
  split at h <;> split at h <;> omega
def drN (A : AS) (z : Int32) : Nat → Int32 × AS
  | 0 => (z, A)
  | n + 1 => (flI (flI (drN A z n).1), covA (drN A z n).2 (dwN (flI (drN A z n).1) % A 0 0) (dwN (flI (flI (drN A z n).1)) % A 0 1))
def drR (A : AS) (x1 x2 x3 : Int32) : Int32 := match ix1 x2 61 with
  | none => -1
  | some n => match ix x3 2 with
    | none => -1
    | some w => if A 0 1 = 0 then -2 else if w = 0 then nI (valA (drN A x1 n).2 (2 ^ A 0 1 - 1)) else nI (lbA (drN A x1 n).2)
theorem drN_ok {A : AS} (hW : WF A) (hs : A 0 1 ≠ 0) (z : Int32) : ∀ n, WF (drN A z n).2 ∧ (drN A z n).2 0 = A 0 ∧ (∀ r, r ≠ 7 → r ≠ 8 → (drN A z n).2 r = A r) := by
  have hn := hW.1.n
  intro n
  induction n with
  | zero => exact ⟨hW, rfl, fun _ _ _ => rfl⟩
  | succ n ih =>
    obtain ⟨i1, i2, i3⟩ := ih
    have m1 := Nat.mod_lt (dwN (flI (drN A z n).1)) (show A 0 0 > 0 by omega)
    have m2 := Nat.mod_lt (dwN (flI (flI (drN A z n).1))) (show A 0 1 > 0 by omega)
    have l6 : dwN (flI (drN A z n).1) % A 0 0 < 6 := by omega
    refine ⟨WF_cov i1 l6 (by rw [i2]; exact m2), ?_, ?_⟩
    · rw [show (drN A z (n + 1)).2 = covA (drN A z n).2 (dwN (flI (drN A z n).1) % A 0 0) (dwN (flI (flI (drN A z n).1)) % A 0 1) from rfl, covA_r (by decide) (by decide), i2]
    · intro r h7 h8
      rw [show (drN A z (n + 1)).2 = covA (drN A z n).2 (dwN (flI (drN A z n).1) % A 0 0) (dwN (flI (flI (drN A z n).1)) % A 0 1) from rfl, covA_r h8 h7, i3 r h7 h8]
theorem drift_s (v0 v2 : SV) {v : SV} {A : AS} (hR : RepC v A) (hW : WF A) (x1 x2 x3 : Int32) : ∃ v', m_X5_drift v0 v v2 x1 x2 x3 = some (drR A x1 x2 x3, v') := by
  have hn := hW.1.n
  unfold m_X5_drift drR
  rw [within1_s (k := 61) (by decide), some_bind, within_s (k := 2) (by decide) (by omega)]
  cases h1 : ix1 x2 61 with
  | none => exact ⟨v2, rfl⟩
  | some n =>
    obtain ⟨rfl, hn1, hn2⟩ := ix1_some h1
    simp only [Option.isSome_some, bI, if_true, ne10, if_false, some_bind]
    cases h2 : ix x3 2 with
    | none => exact ⟨v2, rfl⟩
    | some w =>
      obtain ⟨rfl, hw⟩ := ix_some h2
      simp only [Option.isSome_some, if_true, ne10, if_false]
      rw [hR.n (j := 1) (by omega), show (0 : Int32) = nI 0 from rfl, ifp (cast_eq (by omega) (by omega))]
      by_cases h0 : A 0 1 = 0
      · rw [if_pos h0, if_pos h0]; exact ⟨_, rfl⟩
      · rw [if_neg h0, if_neg h0]
        obtain ⟨vt, h3, h4⟩ := becomes_s v2 hR
        rw [h3, some_bind]
        have := lp_inv (step := m_X5_drift_L51 v (nI n)) (fun k z => z.1 = (drN A x1 k).1 ∧ z.2.1 = nI k ∧ RepC z.2.2 (drN A x1 k).2) (fun r => RepC r.2.2 (drN A x1 n).2) n ?_ ?_ (s0 := (x1, nI 0, vt)) ⟨rfl, rfl, h4⟩
        · obtain ⟨r, hr, hP⟩ := this
          obtain ⟨w1, w2, w3⟩ := drN_ok hW h0 x1 n
          have h25 := p2_5 (n := A 0 1) (by omega)
          rw [hr, some_bind]
          unfold m_X5_drift_K51
          rw [show (0 : Int32) = nI 0 from rfl, ifp (cast_eq (by omega) (by omega)), everybody_s hP w1.1, some_bind, w2, valueOf_s hP w1 (by omega), some_bind, likeBonds_s hP w1, some_bind]
          by_cases hw0 : w = 0
          · rw [if_pos hw0, if_pos hw0]; exact ⟨_, rfl⟩
          · rw [if_neg hw0, if_neg hw0]; exact ⟨_, rfl⟩
        · rintro k ⟨z1, z2, z3⟩ hk ⟨e1, e2, hI⟩
          dsimp only at e1 e2 hI
          subst e1 e2
          left
          obtain ⟨w1, w2, w3⟩ := drN_ok hW h0 x1 k
          have m1 := Nat.mod_lt (dwN (flI (drN A x1 k).1)) (show A 0 0 > 0 by omega)
          have l1 := dwN_lt (flI (drN A x1 k).1)
          have l2 := dwN_lt (flI (flI (drN A x1 k).1))
          obtain ⟨v9, h6, h7⟩ := cover_s (s := dwN (flI (flI (drN A x1 k).1)) % A 0 1) hI w1.1 (p := dwN (flI (drN A x1 k).1) % A 0 0) (by omega)
          unfold m_X5_drift_L51
          dsimp +instances only
          rw [if_neg (nI_ge hk (by omega))]
          show ∃ s', (some (flI (drN A x1 k).1)).bind _ = _ ∧ _
          rw [some_bind, drawn_s, some_bind, hR.n (j := 0) (by omega), rem_s (by omega) (by omega) (by omega), some_bind]
          show ∃ s', (some (flI (flI (drN A x1 k).1))).bind _ = _ ∧ _
          rw [some_bind, drawn_s, some_bind, hR.n (j := 1) (by omega), rem_s (by omega) (by omega) (by omega), some_bind, h6, some_bind, nI_1]
          exact ⟨_, rfl, rfl, rfl, h7⟩
        · rintro ⟨z1, z2, z3⟩ ⟨e1, e2, hI⟩
          dsimp only at e1 e2 hI
          subst e1 e2
          unfold m_X5_drift_L51
          dsimp +instances only
          rw [if_pos (nI_le (Nat.le_refl _) (by omega))]
          exact ⟨_, rfl, hI⟩
