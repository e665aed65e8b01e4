/-! ===== PURE: tokens ===== -/
def gD (o : Option Nat) (d : Nat) : Nat := match o with
  | some k => k
  | none => d
def skA (n : Nat) (t : Nat → Nat) (i : Nat) : Nat := i + gD (firstN (fun k => ! decide (t (i + k) = 32)) (n - i)) (n - i)
def rnE (n : Nat) (t : Nat → Nat) (lo hi i : Nat) : Nat := i + gD (firstN (fun k => ! (decide (lo ≤ t (i + k)) && decide (t (i + k) ≤ hi))) (n - i)) (n - i)
theorem gD_le {g : Nat → Bool} {m : Nat} : gD (firstN g m) m ≤ m := by
  cases h : firstN g m with
  | none => exact Nat.le_refl _
  | some k => have := (firstN_some h).1; show k ≤ m; omega
theorem gD_at {g : Nat → Bool} {m : Nat} (h : gD (firstN g m) m < m) : g (gD (firstN g m) m) = true := by
  cases hf : firstN g m with
  | none => rw [hf] at h; exact absurd h (Nat.lt_irrefl m)
  | some k => exact (firstN_some hf).2.1
theorem gD_bf {g : Nat → Bool} {m k : Nat} (h : k < gD (firstN g m) m) : g k = false := by
  cases hf : firstN g m with
  | none => rw [hf] at h; exact firstN_none hf k h
  | some j => rw [hf] at h; exact (firstN_some hf).2.2 k h
theorem lp_gD {σ ρ : Type} {step : σ → Option (σ ⊕ ρ)} (f : Nat → σ) (g : Nat → Bool) (r : Nat → ρ) (m : Nat) (hs : ∀ k, k < m → g k = false → step (f k) = some (.inl (f (k + 1)))) (hb : ∀ k, k < m → g k = true → step (f k) = some (.inr (r k))) (he : step (f m) = some (.inr (r m))) : lpC step (f 0) = some (r (gD (firstN g m) m)) := by
  rw [lp_first f g r (r m) m hs hb he]
  cases firstN g m <;> rfl
theorem skA_ge (n : Nat) (t : Nat → Nat) (i : Nat) : i ≤ skA n t i := Nat.le_add_right _ _
theorem skA_le {n i : Nat} (t : Nat → Nat) (h : i ≤ n) : skA n t i ≤ n := by
  have := gD_le (g := fun k => ! decide (t (i + k) = 32)) (m := n - i)
  unfold skA
  omega
theorem skA_ne {n i : Nat} {t : Nat → Nat} (h : skA n t i < n) : ¬ t (skA n t i) = 32 := by
  have h1 : gD (firstN (fun k => ! decide (t (i + k) = 32)) (n - i)) (n - i) < n - i := by unfold skA at h; omega
  have := gD_at h1
  unfold skA
  simpa using this
theorem rnE_ge (n : Nat) (t : Nat → Nat) (lo hi i : Nat) : i ≤ rnE n t lo hi i := Nat.le_add_right _ _
theorem rnE_le {n i : Nat} (t : Nat → Nat) (lo hi : Nat) (h : i ≤ n) : rnE n t lo hi i ≤ n := by
  have := gD_le (g := fun k => ! (decide (lo ≤ t (i + k)) && decide (t (i + k) ≤ hi))) (m := n - i)
  unfold rnE
  omega
theorem rnE_in {n i lo hi j : Nat} {t : Nat → Nat} (h1 : i ≤ j) (h2 : j < rnE n t lo hi i) : lo ≤ t j ∧ t j ≤ hi := by
  have h3 : j - i < gD (firstN (fun k => ! (decide (lo ≤ t (i + k)) && decide (t (i + k) ≤ hi))) (n - i)) (n - i) := by unfold rnE at h2; omega
  have := gD_bf h3
  rw [show i + (j - i) = j by omega] at this
  simpa using this
theorem rnE_gt {n i lo hi : Nat} {t : Nat → Nat} (hi2 : i < n) : (i < rnE n t lo hi i) ↔ (lo ≤ t i ∧ t i ≤ hi) := by
  constructor
  · intro h
    exact rnE_in (Nat.le_refl i) h
  · intro h
    by_cases h0 : gD (firstN (fun k => ! (decide (lo ≤ t (i + k)) && decide (t (i + k) ≤ hi))) (n - i)) (n - i) = 0
    · have h1 := gD_at (g := fun k => ! (decide (lo ≤ t (i + k)) && decide (t (i + k) ≤ hi))) (m := n - i) (by rw [h0]; omega)
      rw [h0] at h1
      simp [h.1, h.2] at h1
    · unfold rnE; omega
def vkN (t : Nat → Nat) (a k : Nat) : Nat := if k = 0 then 0 else if k = 1 then t a - 48 else 10 * (t a - 48) + (t (a + 1) - 48)
def tkK (n : Nat) (t : Nat → Nat) (i : Nat) : Nat := if n ≤ skA n t i then 0 else if t (skA n t i) = 59 then 3 else if 97 ≤ t (skA n t i) ∧ t (skA n t i) ≤ 122 then 1 else if 48 ≤ t (skA n t i) ∧ t (skA n t i) ≤ 57 then (if rnE n t 48 57 (skA n t i) - skA n t i ≤ 2 then 2 else 4) else 4
def tkE (n : Nat) (t : Nat → Nat) (i : Nat) : Nat := if n ≤ skA n t i then skA n t i else if t (skA n t i) = 59 then skA n t i + 1 else if 97 ≤ t (skA n t i) ∧ t (skA n t i) ≤ 122 then rnE n t 97 122 (skA n t i) else rnE n t 48 57 (skA n t i)
def tkV (n : Nat) (t : Nat → Nat) (i : Nat) : Nat := vkN t (skA n t i) (rnE n t 48 57 (skA n t i) - skA n t i)
theorem tkE_le {n i : Nat} (t : Nat → Nat) (h : i ≤ n) : tkE n t i ≤ n := by
  have h1 := skA_le t h
  unfold tkE
  split
  · omega
  · split
    · omega
    · split
      · exact rnE_le _ _ _ h1
      · exact rnE_le _ _ _ h1
theorem tkE_gt {n i : Nat} {t : Nat → Nat} (h : i ≤ n) (hk : tkK n t i ≠ 4) (h0 : tkK n t i ≠ 0) : i < tkE n t i := by
  have h1 := skA_ge n t i
  unfold tkK at hk h0
  unfold tkE
  by_cases c0 : n ≤ skA n t i
  · rw [if_pos c0] at h0; exact absurd rfl h0
  · rw [if_neg c0] at hk h0 ⊢
    by_cases c1 : t (skA n t i) = 59
    · rw [if_pos c1]; omega
    · rw [if_neg c1] at hk h0 ⊢
      by_cases c2 : 97 ≤ t (skA n t i) ∧ t (skA n t i) ≤ 122
      · rw [if_pos c2]
        have := (rnE_gt (t := t) (n := n) (i := skA n t i) (lo := 97) (hi := 122) (by omega)).mpr c2
        omega
      · rw [if_neg c2] at hk h0 ⊢
        by_cases c3 : 48 ≤ t (skA n t i) ∧ t (skA n t i) ≤ 57
        · have := (rnE_gt (t := t) (n := n) (i := skA n t i) (lo := 48) (hi := 57) (by omega)).mpr c3
          omega
        · rw [if_neg c3] at hk; exact absurd rfl hk
theorem tkK_lt (n : Nat) (t : Nat → Nat) (i : Nat) : tkK n t i ≤ 4 := by
  unfold tkK
  split
  · omega
  · split
    · omega
    · split
      · omega
      · split
        · split <;> omega
        · omega
theorem tkA_n {n i : Nat} {t : Nat → Nat} (h : i ≤ n) (hk : tkK n t i = 0) : skA n t i = n := by
  have h1 := skA_le t h
  unfold tkK at hk
  by_cases c0 : n ≤ skA n t i
  · omega
  · rw [if_neg c0] at hk
    split at hk
    · omega
    · split at hk
      · omega
      · split at hk
        · split at hk <;> omega
        · omega
theorem tkV_lt (n : Nat) (t : Nat → Nat) (i : Nat) (ht : ∀ j, t j ≤ 127) : tkV n t i < 1000 := by
  have h1 := ht (skA n t i)
  have h2 := ht (skA n t i + 1)
  unfold tkV vkN
  split
  · omega
  · split <;> omega
theorem up2_up2 {v : SV} {k i : Nat} {x y : Int32} : up2 (up2 v k i x) k i y = up2 v k i y := by
  funext r j
  by_cases hr : r = k
  · subst hr
    rw [up2_v, up2_v, up2_v]
    by_cases hj : j = i
    · rw [if_pos hj, if_pos hj]
    · rw [if_neg hj, if_neg hj, if_neg hj]
  · rw [up2_n hr, up2_n hr, up2_n hr]
/-- the class ahead of a token -/
def CT (v : SV) (n : Nat) (t : Nat → Nat) (i : Nat) : Prop := v 0 1 = nI n ∧ (∀ j, j < n → v 50 j = nI (t j)) ∧ v 0 7 = nI i ∧ i ≤ n ∧ v 0 3 = 0
def FrC (v v' : SV) : Prop := (∀ k, k ≠ 0 → v' k = v k) ∧ ∀ j, j < 3 ∨ 8 < j → v' 0 j = v 0 j
theorem FrC.rf {v : SV} : FrC v v := ⟨fun _ _ => rfl, fun _ _ => rfl⟩
theorem FrC.tr {a b c : SV} (h : FrC a b) (h' : FrC b c) : FrC a c := ⟨fun k hk => (h'.1 k hk).trans (h.1 k hk), fun j hj => (h'.2 j hj).trans (h.2 j hj)⟩
theorem FrC.up {v : SV} {j : Nat} {x : Int32} (h : 3 ≤ j ∧ j ≤ 8) : FrC v (up2 v 0 j x) := ⟨fun k hk => up2_n hk, fun i hi => up2_si (by omega)⟩
theorem runEnd_s {v : SV} (u : SV) {n i lo hi : Nat} {t : Nat → Nat} (h1 : v 0 1 = nI n) (ht : ∀ j, j < n → v 50 j = nI (t j)) (hi7 : v 0 7 = nI i) (hin : i ≤ n) (hn : n ≤ 160) (hb : ∀ j, t j ≤ 127) (hlo : lo < 200) (hhi : hi < 200) : m_X0_runEnd v u (nI lo) (nI hi) = some (nI (rnE n t lo hi i)) := by
  unfold m_X0_runEnd
  rw [hi7, show nI i = (fun k => nI (i + k)) 0 from rfl]
  rw [lp_gD (step := m_X0_runEnd_L5 v (nI lo) (nI hi)) (fun k => nI (i + k)) (fun k => ! (decide (lo ≤ t (i + k)) && decide (t (i + k) ≤ hi))) (fun k => nI (i + k)) (n - i)]
  · rfl
  all_goals try intro k hk hg
  all_goals unfold m_X0_runEnd_L5
  all_goals rw [h1]
  · have hbk := hb (i + k)
    simp only [Bool.not_eq_false', Bool.and_eq_true, decide_eq_true_eq] at hg
    rw [if_neg (nI_ge (by omega) (by omega)), inB_nI (by omega) (by omega), ck_true, ck_true, nI_clamp (by omega), ht _ (by omega), ifp (cast_lt (by omega) (by omega)), ifp (cast_lt (by omega) (by omega)), if_neg (by omega), if_neg (by omega), nI_1]
    rfl
  · have hbk := hb (i + k)
    simp only [Bool.not_eq_true', Bool.and_eq_false_iff, decide_eq_false_iff_not] at hg
    rw [if_neg (nI_ge (by omega) (by omega)), inB_nI (by omega) (by omega), ck_true, ck_true, nI_clamp (by omega), ht _ (by omega), ifp (cast_lt (by omega) (by omega)), ifp (cast_lt (by omega) (by omega))]
    by_cases hc : t (i + k) < lo
    · rw [if_pos hc]
    · rw [if_neg hc, if_pos (by omega)]
  · rw [show i + (n - i) = n by omega, if_pos (nI_le (Nat.le_refl _) (by omega))]
theorem refuse_s (v u : SV) (x y : Int32) : m_X0_refuse v u x y = some (0, up2 (up2 v 0 3 x) 0 4 y) := by
  unfold m_X0_refuse
  rw [lett_eq, lett_eq]
/-- a fault of the class -/
def Fc (v : SV) (code at_ : Nat) : Prop := v 0 3 = nI code ∧ v 0 4 = nI at_
theorem Fc_up (v : SV) (code at_ : Nat) : Fc (up2 (up2 v 0 3 (nI code)) 0 4 (nI at_)) code at_ := ⟨by rw [up2_si (by decide), up2_ss], up2_ss⟩
theorem FrC_up (v : SV) (x y : Int32) : FrC v (up2 (up2 v 0 3 x) 0 4 y) := (FrC.up (by omega)).tr (FrC.up (by omega))
theorem readToken_s {v : SV} (u : SV) {n i : Nat} {t : Nat → Nat} (h : CT v n t i) (hn : n ≤ 160) (hb : ∀ j, t j ≤ 127) : ∃ v', FrC v v' ∧ v' 0 6 = nI (skA n t i) ∧ ((tkK n t i = 4 ∧ m_X0_readToken v u = some (0, v') ∧ Fc v' 1 (skA n t i)) ∨ (tkK n t i ≠ 4 ∧ m_X0_readToken v u = some (1, v') ∧ CT v' n t (tkE n t i) ∧ v' 0 5 = nI (tkK n t i) ∧ (tkK n t i = 2 → v' 0 8 = nI (tkV n t i)))) := by
  obtain ⟨h1, ht, h7, hin, h3⟩ := h
  have ha := skA_le t hin
  have hge := skA_ge n t i
  have hL : lpC m_X0_readToken_L0 v = some (up2 v 0 7 (nI (skA n t i))) := by
    have := lp_gD (step := m_X0_readToken_L0) (fun k => up2 v 0 7 (nI (i + k))) (fun k => ! decide (t (i + k) = 32)) (fun k => up2 v 0 7 (nI (i + k))) (n - i) ?_ ?_ ?_
    · rw [show up2 v 0 7 (nI (i + 0)) = v from up2_id h7] at this
      exact this
    all_goals try intro k hk hg
    all_goals unfold m_X0_readToken_L0
    all_goals rw [up2_si (by decide), up2_ss, up2_n (by decide), h1]
    · simp only [Bool.not_eq_false', decide_eq_true_eq] at hg
      rw [if_neg (nI_ge (by omega) (by omega)), inB_nI (by omega) (by omega), ck_true, nI_clamp (by omega), ht _ (by omega), hg, if_pos (show nI 32 = (32 : Int32) from rfl), lett_eq, up2_up2, nI_1]
      rfl
    · simp only [Bool.not_eq_true', decide_eq_false_iff_not] at hg
      have hbk := hb (i + k)
      rw [if_neg (nI_ge (by omega) (by omega)), inB_nI (by omega) (by omega), ck_true, nI_clamp (by omega), ht _ (by omega), ifp (show (nI (t (i + k)) = (32 : Int32)) = (t (i + k) = 32) from cast_eq (b := 32) (by omega) (by omega)), if_neg hg]
    · rw [show i + (n - i) = n by omega, if_pos (nI_le (Nat.le_refl _) (by omega))]
  generalize hv5 : up2 (up2 v 0 7 (nI (skA n t i))) 0 6 (nI (skA n t i)) = v5
  have f5 : FrC v v5 := by rw [← hv5]; exact (FrC.up (by omega)).tr (FrC.up (by omega))
  have e6 : v5 0 6 = nI (skA n t i) := by rw [← hv5, up2_ss]
  have e7 : v5 0 7 = nI (skA n t i) := by rw [← hv5, up2_si (by decide), up2_ss]
  have e1 : v5 0 1 = nI n := by rw [f5.2 1 (by omega), h1]
  have e3 : v5 0 3 = 0 := by rw [← hv5, up2_si (by decide), up2_si (by decide), h3]
  have et : ∀ j, j < n → v5 50 j = nI (t j) := fun j hj => by rw [f5.1 50 (by decide)]; exact ht j hj
  have hrt : m_X0_readToken v u = m_X0_readToken_K0 u (up2 v 0 7 (nI (skA n t i))) := by
    unfold m_X0_readToken
    rw [hL, some_bind]
  rw [hrt]
  unfold m_X0_readToken_K0
  rw [up2_ss, hv5, lett_eq, e7, e1, ifp (cast_lt (by omega) (by omega))]
  unfold tkK tkE
  by_cases c0 : n ≤ skA n t i
  · rw [if_pos c0, if_pos c0, if_neg (show ¬ skA n t i < n by omega), lett_eq]
    refine ⟨up2 v5 0 5 (nI 0), f5.tr (FrC.up (by omega)), by rw [up2_si (by decide), e6], .inr ⟨by decide, rfl, ⟨by rw [up2_si (by decide), e1], fun j hj => by rw [up2_n (by decide)]; exact et j hj, by rw [up2_si (by decide), e7], ha, by rw [up2_si (by decide), e3]⟩, up2_ss, fun h => by cases h⟩⟩
  · have hb9 := hb (skA n t i)
    rw [if_neg c0, if_neg c0, if_pos (show skA n t i < n by omega), inB_nI (by omega) (by omega), ck_true, nI_clamp (by omega), et _ (by omega), ifp (show (nI (t (skA n t i)) = (59 : Int32)) = (t (skA n t i) = 59) from cast_eq (b := 59) (by omega) (by omega))]
    by_cases c1 : t (skA n t i) = 59
    · rw [if_pos c1, if_pos c1, if_pos c1]
      simp only [lett_eq]
      rw [up2_si (show 7 ≠ 5 by decide), e7, nI_1]
      refine ⟨up2 (up2 v5 0 5 (nI 3)) 0 7 (nI (skA n t i + 1)), (f5.tr (FrC.up (by omega))).tr (FrC.up (by omega)), by rw [up2_si (by decide), up2_si (by decide), e6], .inr ⟨by decide, rfl, ⟨by rw [up2_si (by decide), up2_si (by decide), e1], fun j hj => by rw [up2_n (by decide), up2_n (by decide)]; exact et j hj, up2_ss, by omega, by rw [up2_si (by decide), up2_si (by decide), e3]⟩, by rw [up2_si (by decide), up2_ss], fun h => by cases h⟩⟩
    · rw [if_neg c1, if_neg c1, if_neg c1, show (97 : Int32) = nI 97 from rfl, show (122 : Int32) = nI 122 from rfl, runEnd_s u e1 et e7 ha hn hb (by omega) (by omega), some_bind, lett_eq, up2_ss, up2_si (show 6 ≠ 7 by decide), e6]
      have hrle := rnE_le t 97 122 ha
      have hgt := rnE_gt (t := t) (n := n) (i := skA n t i) (lo := 97) (hi := 122) (by omega)
      rw [ifp (cast_le (by omega) (by omega))]
      by_cases c2 : 97 ≤ t (skA n t i) ∧ t (skA n t i) ≤ 122
      · have hg2 := hgt.mpr c2
        rw [if_pos c2, if_pos c2, if_neg (by omega), lett_eq]
        refine ⟨up2 (up2 v5 0 7 (nI (rnE n t 97 122 (skA n t i)))) 0 5 (nI 1), (f5.tr (FrC.up (by omega))).tr (FrC.up (by omega)), by rw [up2_si (by decide), up2_si (by decide), e6], .inr ⟨by decide, rfl, ⟨by rw [up2_si (by decide), up2_si (by decide), e1], fun j hj => by rw [up2_n (by decide), up2_n (by decide)]; exact et j hj, by rw [up2_si (by decide), up2_ss], hrle, by rw [up2_si (by decide), up2_si (by decide), e3]⟩, up2_ss, fun h => by cases h⟩⟩
      · have hre : rnE n t 97 122 (skA n t i) = skA n t i := by
          have := rnE_ge n t 97 122 (skA n t i)
          have : ¬ skA n t i < rnE n t 97 122 (skA n t i) := fun h => c2 (hgt.mp h)
          omega
        rw [if_neg c2, if_neg c2, hre, if_pos (Nat.le_refl _), show up2 v5 0 7 (nI (skA n t i)) = v5 from up2_id e7, show (48 : Int32) = nI 48 from rfl, show (57 : Int32) = nI 57 from rfl, runEnd_s u e1 et e7 ha hn hb (by omega) (by omega), some_bind]
        simp only [lett_eq]
        have hrle := rnE_le t 48 57 ha
        have hrge := rnE_ge n t 48 57 (skA n t i)
        have hgt := rnE_gt (t := t) (n := n) (i := skA n t i) (lo := 48) (hi := 57) (by omega)
        generalize hv11 : up2 (up2 v5 0 7 (nI (rnE n t 48 57 (skA n t i)))) 0 5 (2 : Int32) = v11
        have f11 : FrC v v11 := by rw [← hv11]; exact (f5.tr (FrC.up (by omega))).tr (FrC.up (by omega))
        have g7 : v11 0 7 = nI (rnE n t 48 57 (skA n t i)) := by rw [← hv11, up2_si (by decide), up2_ss]
        have g6 : v11 0 6 = nI (skA n t i) := by rw [← hv11, up2_si (by decide), up2_si (by decide), e6]
        have g5 : v11 0 5 = nI 2 := by rw [← hv11, up2_ss]; rfl
        have g1 : v11 0 1 = nI n := by rw [f11.2 1 (by omega), h1]
        have g3 : v11 0 3 = 0 := by rw [← hv11, up2_si (by decide), up2_si (by decide), e3]
        have gt : ∀ j, j < n → v11 50 j = nI (t j) := fun j hj => by rw [f11.1 50 (by decide)]; exact ht j hj
        have hfault : ∃ v', FrC v v' ∧ v' 0 6 = nI (skA n t i) ∧ (m_X0_refuse v11 u (1 : Int32) (nI (skA n t i))).bind (fun y168 => ck (nzB y168.1) (some (y168.1, y168.2))) = some (0, v') ∧ Fc v' 1 (skA n t i) := by
          rw [refuse_s, some_bind]
          exact ⟨_, f11.tr (FrC_up _ _ _), by rw [up2_si (by decide), up2_si (by decide), g6], rfl, Fc_up v11 1 (skA n t i)⟩
        rw [g7, g6, pk_sub hrge, ifp (show (nI (rnE n t 48 57 (skA n t i) - skA n t i) < (1 : Int32)) = (rnE n t 48 57 (skA n t i) - skA n t i < 1) from cast_lt (b := 1) (by omega) (by omega)), ifp (show (nI (rnE n t 48 57 (skA n t i) - skA n t i) ≤ (2 : Int32)) = (rnE n t 48 57 (skA n t i) - skA n t i ≤ 2) from cast_le (b := 2) (by omega) (by omega))]
        by_cases c3 : 48 ≤ t (skA n t i) ∧ t (skA n t i) ≤ 57
        · have hg3 := hgt.mpr c3
          rw [if_pos c3, if_neg (show ¬ rnE n t 48 57 (skA n t i) - skA n t i < 1 by omega)]
          by_cases c4 : rnE n t 48 57 (skA n t i) - skA n t i ≤ 2
          · rw [if_pos c4, if_pos c4, inB_nI (by omega) (by omega), ck_true, nI_clamp (by omega), gt _ (by omega), pk_sub c3.1, show (2 : Int32) = nI 2 from rfl, ifp (cast_eq (by omega) (by omega)), up2_si (show 6 ≠ 8 by decide), g6, up2_ss, nI_1, show (10 : Int32) = nI 10 from rfl, pk_mul]
            by_cases c5 : rnE n t 48 57 (skA n t i) - skA n t i = 2
            · have hin2 := rnE_in (n := n) (t := t) (i := skA n t i) (lo := 48) (hi := 57) (j := skA n t i + 1) (by omega) (by omega)
              rw [if_pos c5, inB_nI (by omega) (by omega), ck_true, nI_clamp (by omega), up2_n (show 50 ≠ 0 by decide), gt _ (by omega), nI_add, pk_sub (by omega)]
              refine ⟨_, (f11.tr (FrC.up (j := 8) (by omega))).tr (FrC.up (j := 8) (by omega)), by rw [up2_si (by decide), up2_si (by decide), g6], .inr ⟨by decide, rfl, ⟨by rw [up2_si (by decide), up2_si (by decide), g1], fun j hj => by rw [up2_n (by decide), up2_n (by decide)]; exact gt j hj, by rw [up2_si (by decide), up2_si (by decide), g7], hrle, by rw [up2_si (by decide), up2_si (by decide), g3]⟩, by rw [up2_si (by decide), up2_si (by decide), g5], fun _ => ?_⟩⟩
              rw [up2_ss]
              unfold tkV vkN
              rw [if_neg (by omega), if_neg (by omega)]
              congr 1
              omega
            · rw [if_neg c5]
              refine ⟨_, f11.tr (FrC.up (j := 8) (by omega)), by rw [up2_si (by decide), g6], .inr ⟨by decide, rfl, ⟨by rw [up2_si (by decide), g1], fun j hj => by rw [up2_n (by decide)]; exact gt j hj, by rw [up2_si (by decide), g7], hrle, by rw [up2_si (by decide), g3]⟩, by rw [up2_si (by decide), g5], fun _ => ?_⟩⟩
              rw [up2_ss]
              unfold tkV vkN
              rw [if_neg (by omega), if_pos (by omega)]
          · rw [if_neg c4, if_neg c4]
            obtain ⟨v', q1, q2, q3, q4⟩ := hfault
            exact ⟨v', q1, q2, .inl ⟨rfl, q3, q4⟩⟩
        · have hre : rnE n t 48 57 (skA n t i) = skA n t i := by
            have : ¬ skA n t i < rnE n t 48 57 (skA n t i) := fun h => c3 (hgt.mp h)
            omega
          rw [if_neg c3, if_pos (by omega)]
          obtain ⟨v', q1, q2, q3, q4⟩ := hfault
          exact ⟨v', q1, q2, .inl ⟨rfl, q3, q4⟩⟩
/-! the reference's tokens -/
def RT (w : SV) (n : Nat) (t : Nat → Nat) : Prop := w 0 19 = nI n ∧ ∀ j, j < n → w 18 j = nI (t j)
def FrK (w w' : SV) : Prop := (∀ k, k ≠ 0 → w' k = w k) ∧ ∀ j, j < 21 ∨ 26 < j → w' 0 j = w 0 j
theorem FrK.rf {w : SV} : FrK w w := ⟨fun _ _ => rfl, fun _ _ => rfl⟩
theorem FrK.tr {a b c : SV} (h : FrK a b) (h' : FrK b c) : FrK a c := ⟨fun k hk => (h'.1 k hk).trans (h.1 k hk), fun j hj => (h'.2 j hj).trans (h.2 j hj)⟩
theorem FrK.up {w : SV} {j : Nat} {x : Int32} (h : 21 ≤ j ∧ j ≤ 26) : FrK w (up2 w 0 j x) := ⟨fun k hk => up2_n hk, fun i hi => up2_si (by omega)⟩
theorem RT.k {w w' : SV} {n : Nat} {t : Nat → Nat} (h : RT w n t) (hF : FrK w w') : RT w' n t := ⟨by rw [hF.2 19 (by omega)]; exact h.1, fun j hj => by rw [hF.1 18 (by decide)]; exact h.2 j hj⟩
theorem byteAt_s {w : SV} {n j : Nat} {t : Nat → Nat} (h : RT w n t) (hn : n ≤ 160) (hj : j ≤ 160) : m_X6_byteAt w (nI j) = some (if j < n then nI (t j) else -4) := by
  unfold m_X6_byteAt
  rw [h.1, ifp (cast_le (by omega) (by omega))]
  by_cases hc : j < n
  · rw [if_neg (by omega), if_pos hc, inB_nI (by omega) (by omega), ck_true, nI_clamp (by omega), h.2 j hc]
  · rw [if_pos (by omega), if_neg hc]
theorem inC_s {x : Int32} {lo hi : Nat} {L H : Int64} (hL : L.toInt = lo) (hH : H.toInt = hi) : m_X6_in x.toInt64 L H = some (bI (decide ((lo : Int) ≤ x.toInt ∧ x.toInt ≤ hi))) := by
  unfold m_X6_in
  have hx : x.toInt64.toInt = x.toInt := Int32.toInt_toInt64 x
  by_cases c1 : x.toInt < lo
  · rw [if_pos (by rw [lg_cmp_lt, Int64.lt_iff_toInt_lt]; omega), decide_eq_false (by omega)]; rfl
  · rw [if_neg (by rw [lg_cmp_lt, Int64.lt_iff_toInt_lt]; omega)]
    by_cases c2 : (hi : Int) < x.toInt
    · rw [if_pos (by rw [lg_cmp_gt, Int64.lt_iff_toInt_lt]; omega), decide_eq_false (by omega)]; rfl
    · rw [if_neg (by rw [lg_cmp_gt, Int64.lt_iff_toInt_lt]; omega), decide_eq_true (by omega)]; rfl
/-- what the reference sees ahead of place i -/
def LK (w : SV) (n : Nat) (t : Nat → Nat) (i : Nat) : Prop := (tkK n t i = 4 ∧ w 0 21 = nI 1 ∧ w 0 22 = nI (skA n t i)) ∨ (tkK n t i ≠ 4 ∧ w 0 21 = nI 0 ∧ w 0 24 = nI (skA n t i) ∧ w 0 25 = nI (tkK n t i) ∧ w 0 23 = nI (tkE n t i) ∧ (tkK n t i = 2 → w 0 26 = nI (tkV n t i)))
theorem fails_0 {w : SV} {a : Nat} {x : Int32} (h : w 0 21 = nI 0) (h24 : w 0 24 = nI a) : m_X6_fails w x = some (up2 (up2 w 0 21 x) 0 22 (nI a)) := by
  unfold m_X6_fails
  rw [h, if_pos (show nI 0 = (0 : Int32) from rfl), lett_eq, lett_eq, up2_si (by decide), h24]
theorem fails_b {w : SV} {c : Nat} {x : Int32} (h : w 0 21 = nI c) (hc : 0 < c) (hc2 : c ≤ 6) : m_X6_fails w x = some w := by
  unfold m_X6_fails
  rw [h, if_neg (nI_ne0 hc (by omega))]
theorem step_b {w : SV} {c : Nat} (h : w 0 21 = nI c) (hc : 0 < c) (hc2 : c ≤ 6) : m_X6_step w = some w := by
  unfold m_X6_step
  rw [h, if_neg (nI_nle hc (by omega))]
theorem step_s {w : SV} {n i : Nat} {t : Nat → Nat} (hT : RT w n t) (hn : n ≤ 160) (hb : ∀ j, t j ≤ 127) (hi : i ≤ n) (h21 : w 0 21 = nI 0) (h23 : w 0 23 = nI i) : ∃ w', m_X6_step w = some w' ∧ LK w' n t i ∧ FrK w w' := by
  have ha := skA_le t hi
  have hge := skA_ge n t i
  have hL : lpC m_X6_step_L8 w = some (up2 w 0 23 (nI (skA n t i))) := by
    have := lp_gD (step := m_X6_step_L8) (fun k => up2 w 0 23 (nI (i + k))) (fun k => ! decide (t (i + k) = 32)) (fun k => up2 w 0 23 (nI (i + k))) (n - i) ?_ ?_ ?_
    · rw [show up2 w 0 23 (nI (i + 0)) = w from up2_id h23] at this
      exact this
    · intro k hk hg
      unfold m_X6_step_L8
      simp only [Bool.not_eq_false', decide_eq_true_eq] at hg
      rw [up2_ss, byteAt_s (hT.k (FrK.up (by omega))) hn (by omega), some_bind, if_pos (show i + k < n by omega), hg, if_pos (show nI 32 = (32 : Int32) from rfl), lett_eq, up2_up2, nI_1]
      rfl
    · intro k hk hg
      unfold m_X6_step_L8
      simp only [Bool.not_eq_true', decide_eq_false_iff_not] at hg
      have hbk := hb (i + k)
      rw [up2_ss, byteAt_s (hT.k (FrK.up (by omega))) hn (by omega), some_bind, if_pos (show i + k < n by omega), ifp (show (nI (t (i + k)) = (32 : Int32)) = (t (i + k) = 32) from cast_eq (b := 32) (by omega) (by omega)), if_neg hg]
    · unfold m_X6_step_L8
      rw [up2_ss, byteAt_s (hT.k (FrK.up (by omega))) hn (by omega), some_bind, if_neg (show ¬ i + (n - i) < n by omega), if_neg (by decide)]
  unfold m_X6_step
  rw [h21, if_pos (show nI 0 ≤ (0 : Int32) from by decide), hL, some_bind]
  unfold m_X6_step_K8
  rw [up2_ss, lett_eq]
  generalize hw5 : up2 (up2 w 0 23 (nI (skA n t i))) 0 24 (nI (skA n t i)) = w5
  have f5 : FrK w w5 := by rw [← hw5]; exact (FrK.up (by omega)).tr (FrK.up (by omega))
  have e23 : w5 0 23 = nI (skA n t i) := by rw [← hw5, up2_si (by decide), up2_ss]
  have e24 : w5 0 24 = nI (skA n t i) := by rw [← hw5, up2_ss]
  have e21 : w5 0 21 = nI 0 := by rw [← hw5, up2_si (by decide), up2_si (by decide), h21]
  rw [e23, byteAt_s (hT.k f5) hn (by omega), some_bind, lett_eq]
  generalize hw7 : up2 w5 0 26 (0 : Int32) = w7
  have f7 : FrK w w7 := by rw [← hw7]; exact f5.tr (FrK.up (by omega))
  have g23 : w7 0 23 = nI (skA n t i) := by rw [← hw7, up2_si (by decide), e23]
  have g24 : w7 0 24 = nI (skA n t i) := by rw [← hw7, up2_si (by decide), e24]
  have g21 : w7 0 21 = nI 0 := by rw [← hw7, up2_si (by decide), e21]
  have g26 : w7 0 26 = nI 0 := by rw [← hw7, up2_ss]; rfl
  unfold LK tkK tkE
  by_cases c0 : n ≤ skA n t i
  · rw [if_pos c0, if_pos c0, if_neg (show ¬ skA n t i < n by omega), if_pos rfl, lett_eq]
    exact ⟨_, rfl, .inr ⟨by decide, by rw [up2_si (by decide), g21], by rw [up2_si (by decide), g24], up2_ss, by rw [up2_si (by decide), g23], fun h => by cases h⟩, f7.tr (FrK.up (by omega))⟩
  · have hb9 := hb (skA n t i)
    have hin : ∀ (lo hi : Nat) (L H : Int64), L.toInt = lo → H.toInt = hi → m_X6_in (nI (t (skA n t i))).toInt64 L H = some (bI (decide (lo ≤ t (skA n t i) ∧ t (skA n t i) ≤ hi))) := by
      intro lo hi L H hL hH
      rw [inC_s hL hH, nI_toInt (by omega)]
      congr 2
      rw [decide_eq_decide]
      omega
    rw [if_neg c0, if_neg c0, if_pos (show skA n t i < n by omega), if_neg (show ¬ nI (t (skA n t i)) = (-4 : Int32) from by show ¬ oI (some (t (skA n t i))) = -4; rw [oI_m4 (fun y hy => by cases hy; omega)]; simp), hin 97 122 _ _ (by decide) (by decide), some_bind, hin 48 57 _ _ (by decide) (by decide), some_bind, ifp (bI_0 _), ifp (bI_0 _)]
    by_cases c2 : 97 ≤ t (skA n t i) ∧ t (skA n t i) ≤ 122
    · rw [if_neg (show ¬ t (skA n t i) = 59 by omega), if_neg (show ¬ t (skA n t i) = 59 by omega), if_pos c2, if_pos c2, decide_eq_true c2, if_neg (show ¬ true = false by simp)]
      have hrle := rnE_le t 97 122 ha
      have hrge := rnE_ge n t 97 122 (skA n t i)
      have hL2 : lpC m_X6_step_L84 w7 = some (up2 w7 0 23 (nI (rnE n t 97 122 (skA n t i)))) := by
        have := lp_gD (step := m_X6_step_L84) (fun k => up2 w7 0 23 (nI (skA n t i + k))) (fun k => ! (decide (97 ≤ t (skA n t i + k)) && decide (t (skA n t i + k) ≤ 122))) (fun k => up2 w7 0 23 (nI (skA n t i + k))) (n - skA n t i) ?_ ?_ ?_
        · rw [show up2 w7 0 23 (nI (skA n t i + 0)) = w7 from up2_id g23] at this
          exact this
        · intro k hk hg
          have hbk := hb (skA n t i + k)
          simp only [Bool.not_eq_false', Bool.and_eq_true, decide_eq_true_eq] at hg
          unfold m_X6_step_L84
          rw [up2_ss, byteAt_s (hT.k (f7.tr (FrK.up (by omega)))) hn (by omega), some_bind, if_pos (show skA n t i + k < n by omega), inC_s (lo := 97) (hi := 122) (by decide) (by decide), some_bind, nI_toInt (by omega), ifp (bI_0 _), if_neg (by simp; omega), lett_eq, up2_up2, nI_1]
          rfl
        · intro k hk hg
          have hbk := hb (skA n t i + k)
          simp only [Bool.not_eq_true', Bool.and_eq_false_iff, decide_eq_false_iff_not] at hg
          unfold m_X6_step_L84
          rw [up2_ss, byteAt_s (hT.k (f7.tr (FrK.up (by omega)))) hn (by omega), some_bind, if_pos (show skA n t i + k < n by omega), inC_s (lo := 97) (hi := 122) (by decide) (by decide), some_bind, nI_toInt (by omega), ifp (bI_0 _), if_pos (by simp; omega)]
        · unfold m_X6_step_L84
          rw [up2_ss, byteAt_s (hT.k (f7.tr (FrK.up (by omega)))) hn (by omega), some_bind, if_neg (show ¬ skA n t i + (n - skA n t i) < n by omega), inC_s (lo := 97) (hi := 122) (by decide) (by decide), some_bind, if_pos (by decide)]
      rw [hL2, some_bind]
      unfold m_X6_step_K84
      rw [lett_eq]
      exact ⟨_, rfl, .inr ⟨by decide, by rw [up2_si (by decide), up2_si (by decide), g21], by rw [up2_si (by decide), up2_si (by decide), g24], up2_ss, by rw [up2_si (by decide), up2_ss], fun h => by cases h⟩, (f7.tr (FrK.up (by omega))).tr (FrK.up (by omega))⟩
    · rw [decide_eq_false c2, if_pos rfl]
      by_cases c3 : 48 ≤ t (skA n t i) ∧ t (skA n t i) ≤ 57
      · rw [if_neg (show ¬ t (skA n t i) = 59 by omega), if_neg (show ¬ t (skA n t i) = 59 by omega), if_neg c2, if_neg c2, if_pos c3, decide_eq_true c3, if_neg (show ¬ true = false by simp)]
        have hrle := rnE_le t 48 57 ha
        have hrge := rnE_ge n t 48 57 (skA n t i)
        have hg3 := (rnE_gt (t := t) (n := n) (i := skA n t i) (lo := 48) (hi := 57) (by omega)).mpr c3
        have hvk : ∀ k, 2 ≤ k → vkN t (skA n t i) (k + 1) = vkN t (skA n t i) k := fun k hk => by
          unfold vkN
          rw [if_neg (by omega), if_neg (by omega), if_neg (by omega), if_neg (by omega)]
        have hm : rnE n t 48 57 (skA n t i) - skA n t i = gD (firstN (fun k => ! (decide (48 ≤ t (skA n t i + k)) && decide (t (skA n t i + k) ≤ 57))) (n - skA n t i)) (n - skA n t i) := by
          unfold rnE
          omega
        have hL2 := lp_inv (step := m_X6_step_L140) (fun k z => z 0 23 = nI (skA n t i + k) ∧ z 0 26 = nI (vkN t (skA n t i) k) ∧ z 0 24 = nI (skA n t i) ∧ z 0 21 = nI 0 ∧ FrK w z) (fun r => r 0 23 = nI (rnE n t 48 57 (skA n t i)) ∧ r 0 26 = nI (tkV n t i) ∧ r 0 24 = nI (skA n t i) ∧ r 0 21 = nI 0 ∧ FrK w r) (rnE n t 48 57 (skA n t i) - skA n t i) ?_ ?_ (s0 := w7) ⟨g23, g26, g24, g21, f7⟩
        · obtain ⟨r, hr, q23, q26, q24, q21, qF⟩ := hL2
          rw [hr, some_bind]
          unfold m_X6_step_K140
          rw [lett_eq, up2_si (by decide), up2_si (by decide), q23, q24, pk_sub hrge, ifp (show (nI (rnE n t 48 57 (skA n t i) - skA n t i) ≤ (2 : Int32)) = (rnE n t 48 57 (skA n t i) - skA n t i ≤ 2) from cast_le (b := 2) (by omega) (by omega))]
          by_cases c4 : rnE n t 48 57 (skA n t i) - skA n t i ≤ 2
          · rw [if_pos c4, if_pos c4]
            exact ⟨_, rfl, .inr ⟨by decide, by rw [up2_si (by decide), q21], by rw [up2_si (by decide), q24], up2_ss, by rw [up2_si (by decide), q23], fun _ => by rw [up2_si (by decide), q26]⟩, qF.tr (FrK.up (by omega))⟩
          · rw [if_neg c4, if_neg c4, fails_0 (a := skA n t i) (by rw [up2_si (by decide), q21]) (by rw [up2_si (by decide), q24]), some_bind]
            exact ⟨_, rfl, .inl ⟨rfl, by rw [up2_si (by decide), up2_ss]; rfl, up2_ss⟩, ((qF.tr (FrK.up (by omega))).tr (FrK.up (by omega))).tr (FrK.up (by omega))⟩
        · rintro k z hk ⟨z23, z26, z24, z21, zF⟩
          left
          have hkin := rnE_in (n := n) (t := t) (i := skA n t i) (lo := 48) (hi := 57) (j := skA n t i + k) (by omega) (by omega)
          have hvl : vkN t (skA n t i) k < 2000 := by
            have := hb (skA n t i + 1)
            unfold vkN
            split
            · omega
            · split <;> omega
          unfold m_X6_step_L140
          rw [z23, byteAt_s (hT.k zF) hn (by omega), some_bind, if_pos (show skA n t i + k < n by omega), inC_s (lo := 48) (hi := 57) (by decide) (by decide), some_bind, some_bind, nI_toInt (by omega), ifp (bI_0 _), if_neg (by simp; omega), z24, pk_sub (by omega), z26]
          simp only [lett_eq]
          rw [show skA n t i + k - skA n t i = k by omega, ifp (show ((2 : Int32) ≤ nI k) = (2 ≤ k) from cast_le (a := 2) (by omega) (by omega))]
          by_cases ck2 : 2 ≤ k
          · rw [if_pos ck2, up2_si (by decide), z23, nI_1]
            refine ⟨_, rfl, up2_ss, ?_, by rw [up2_si (by decide), up2_si (by decide), z24], by rw [up2_si (by decide), up2_si (by decide), z21], (zF.tr (FrK.up (by omega))).tr (FrK.up (by omega))⟩
            rw [up2_si (by decide), up2_ss, hvk k ck2]
          · rw [if_neg ck2, up2_si (by decide), z23, nI_1, show (10 : Int32) = nI 10 from rfl, pk_mul, nI_add, show (48 : Int32) = nI 48 from rfl, pk_sub (by omega)]
            refine ⟨_, rfl, up2_ss, ?_, by rw [up2_si (by decide), up2_si (by decide), z24], by rw [up2_si (by decide), up2_si (by decide), z21], (zF.tr (FrK.up (by omega))).tr (FrK.up (by omega))⟩
            rw [up2_si (by decide), up2_ss]
            congr 1
            have : k = 0 ∨ k = 1 := by omega
            rcases this with rfl | rfl
            · unfold vkN
              rw [if_pos rfl, if_neg (by decide), if_pos rfl, Nat.add_zero]
              omega
            · unfold vkN
              rw [if_neg (by decide), if_pos rfl, if_neg (by decide), if_neg (by decide)]
              omega
        · rintro z ⟨z23, z26, z24, z21, zF⟩
          unfold m_X6_step_L140
          rw [show skA n t i + (rnE n t 48 57 (skA n t i) - skA n t i) = rnE n t 48 57 (skA n t i) by omega] at z23
          rw [z23, byteAt_s (hT.k zF) hn (by omega), some_bind]
          have hno : m_X6_in (if rnE n t 48 57 (skA n t i) < n then nI (t (rnE n t 48 57 (skA n t i))) else (-4 : Int32)).toInt64 48 57 = some 0 := by
            rw [inC_s (lo := 48) (hi := 57) (by decide) (by decide)]
            by_cases hlt : rnE n t 48 57 (skA n t i) < n
            · have hbk := hb (rnE n t 48 57 (skA n t i))
              rw [if_pos hlt, nI_toInt (by omega), decide_eq_false]
              · rfl
              · have h9 := gD_at (g := fun k => ! (decide (48 ≤ t (skA n t i + k)) && decide (t (skA n t i + k) ≤ 57))) (m := n - skA n t i) (by rw [← hm]; omega)
                rw [← hm, show skA n t i + (rnE n t 48 57 (skA n t i) - skA n t i) = rnE n t 48 57 (skA n t i) by omega] at h9
                simp only [Bool.not_eq_true', Bool.and_eq_false_iff, decide_eq_false_iff_not] at h9
                omega
            · rw [if_neg hlt]; rfl
          rw [hno, some_bind, if_pos rfl]
          exact ⟨_, rfl, z23, z26, z24, z21, zF⟩
      · rw [if_neg c2, if_neg c2, if_neg c3, decide_eq_false c3, if_pos rfl, lett_eq, lett_eq, up2_si (by decide), g23, nI_1, ifp (show (nI (t (skA n t i)) = (59 : Int32)) = (t (skA n t i) = 59) from cast_eq (b := 59) (by omega) (by omega))]
        by_cases c1 : t (skA n t i) = 59
        · rw [if_pos c1, if_pos c1, if_pos c1]
          exact ⟨_, rfl, .inr ⟨by decide, by rw [up2_si (by decide), up2_si (by decide), g21], by rw [up2_si (by decide), up2_si (by decide), g24], by rw [up2_si (by decide), up2_ss]; rfl, up2_ss, fun h => by cases h⟩, (f7.tr (FrK.up (by omega))).tr (FrK.up (by omega))⟩
        · rw [if_neg c1, if_neg c1, if_neg c1, fails_0 (a := skA n t i) (by rw [up2_si (by decide), up2_si (by decide), g21]) (by rw [up2_si (by decide), up2_si (by decide), g24]), some_bind]
          exact ⟨_, rfl, .inl ⟨rfl, by rw [up2_si (by decide), up2_ss]; rfl, up2_ss⟩, (((f7.tr (FrK.up (by omega))).tr (FrK.up (by omega))).tr (FrK.up (by omega))).tr (FrK.up (by omega))⟩
