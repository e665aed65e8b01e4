/-! ===== PURE: pictures by the reference ===== -/
def fitB (A : AS) (d : Nat → Nat) : Bool := allN (fun b => likA A (d (A 14 b)) (d (A 15 b))) (A 0 2)
def snB (S : AS) (d : Nat → Nat) (h : Nat) : Bool := allN (fun k => decide (d (S 1 k) = d (S 2 k)) == decide (S 3 k = 1)) h
theorem RM_30 {w : SV} {pg i : Nat} {x : Int32} {A : AS} (hM : RM w pg A) : RM (up2 w 30 i x) pg A := RM_x hM (fun j _ => by rw [up2_n (by decide)]) (up2_n (by decide)) (up2_n (by decide)) (up2_n (by decide))
theorem RM_33 {w : SV} {pg i : Nat} {x : Int32} {A : AS} (hM : RM w pg A) : RM (up2 w 33 i x) pg A := RM_x hM (fun j _ => by rw [up2_n (by decide)]) (up2_n (by decide)) (up2_n (by decide)) (up2_n (by decide))
theorem pic_le {A : AS} (hW : WFb A) {k : Nat} (hk : k ≤ A 0 0) : A 0 1 ^ k ≤ 15625 := by
  have hn := hW.n
  have h1 : A 0 1 ^ k ≤ 5 ^ k := Nat.pow_le_pow_left (by omega) k
  have h2 : 5 ^ k ≤ 5 ^ 6 := Nat.pow_le_pow_right (by decide) (by omega)
  omega
theorem pictures_s {w : SV} {A : AS} (hM : RM w 0 A) (hW : WFb A) : m_X6_pictures w = some (nI (A 0 1 ^ A 0 0)) := by
  have hn := hW.n
  unfold m_X6_pictures
  rw [show ((1 : Int32), (0 : Int32)) = (fun k => (nI (A 0 1 ^ k), nI k)) 0 from rfl]
  rw [lp_run (step := m_X6_pictures_L4 w) (fun k => (nI (A 0 1 ^ k), nI k)) (A 0 0) (r := (nI (A 0 1 ^ A 0 0), nI (A 0 0)))]
  · rfl
  · intro k hk
    unfold m_X6_pictures_L4
    dsimp +instances only
    rw [hM.n0, if_neg (nI_ge hk (by omega)), hM.n1, pk_mul, nI_1, Nat.pow_succ]
  · unfold m_X6_pictures_L4
    dsimp +instances only
    rw [hM.n0, if_pos (nI_le (Nat.le_refl _) (by omega))]
theorem lays_s {w : SV} {A : AS} (hM : RM w 0 A) (hW : WF A) {c : Nat} (hc : c < A 0 1 ^ A 0 0) : ∃ w', m_X6_laysPicture w (nI c) = some (bI (fitB A (dg (A 0 1) (A 0 0) c)), w') ∧ RM w' 0 A ∧ Kp w w' ∧ (∀ r, r ≠ 30 → w' r = w r) ∧ ∀ p, p < A 0 0 → w' 30 p = nI (dg (A 0 1) (A 0 0) c p) := by
  have hn := hW.1.n
  have hc2 := pic_le hW.1 (Nat.le_refl (A 0 0))
  have hn0 : 0 < A 0 1 := by
    cases hz : A 0 1 with
    | zero => rw [hz, Nat.zero_pow (by omega)] at hc; omega
    | succ k => omega
  unfold m_X6_laysPicture
  have h1 := lp_inv (step := m_X6_laysPicture_L9) (fun k z => z.1 = nI (c / A 0 1 ^ k) ∧ z.2.1 = nI (A 0 0 - k) + (-1) ∧ (∀ r, r ≠ 30 → z.2.2 r = w r) ∧ RM z.2.2 0 A ∧ Kp w z.2.2 ∧ ∀ p, A 0 0 - k ≤ p → p < A 0 0 → z.2.2 30 p = nI (dg (A 0 1) (A 0 0) c p)) (fun r => (∀ k, k ≠ 30 → r.2.2 k = w k) ∧ RM r.2.2 0 A ∧ Kp w r.2.2 ∧ ∀ p, p < A 0 0 → r.2.2 30 p = nI (dg (A 0 1) (A 0 0) c p)) (A 0 0) ?_ ?_ (s0 := (nI c, (w 0 1) - (1 : Int32), w)) ⟨by rw [Nat.pow_zero, Nat.div_one], by dsimp only; rw [hM.n0, Int32.sub_eq_add_neg]; rfl, fun _ _ => rfl, hM, Kp.rf, fun p h1 h2 => by omega⟩
  · obtain ⟨⟨r1, r2, r⟩, hr, g1, g2, g3, g4⟩ := h1
    dsimp only at g1 g2 g3 g4
    rw [hr, some_bind]
    unfold m_X6_laysPicture_K9
    have hl : lpC (m_X6_laysPicture_L43 (r1, r2, r)) ((1 : Int32), (0 : Int32)) = some (bI (fitB A (dg (A 0 1) (A 0 0) c)), nI (A 0 2)) := by
      rw [show ((1 : Int32), (0 : Int32)) = (fun k => (bI (allN (fun b => likA A (dg (A 0 1) (A 0 0) c (A 14 b)) (dg (A 0 1) (A 0 0) c (A 15 b))) k), nI k)) 0 from rfl]
      refine lp_run (step := m_X6_laysPicture_L43 (r1, r2, r)) (fun k => (bI (allN (fun b => likA A (dg (A 0 1) (A 0 0) c (A 14 b)) (dg (A 0 1) (A 0 0) c (A 15 b))) k), nI k)) (A 0 2) ?_ ?_
      · intro k hk
        have hb := hW.2.2 k hk
        have d1 := dg_lt (D := A 0 0) (c := c) (i := A 14 k) hn0
        have d2 := dg_lt (D := A 0 0) (c := c) (i := A 15 k) hn0
        unfold m_X6_laysPicture_L43
        dsimp +instances only
        rw [g2.n2, if_neg (nI_ge hk (by omega)), ifp (bI_0 _), li_2, pk_mul, nI_1, nI_1, inB_nI (by omega) (by omega), ck_true, nI_clamp (by omega), g2.bo hk, inB_nI (by omega) (by omega), ck_true, inB_nI (by omega) (by omega), ck_true, nI_clamp (by omega), g2.bo' hk, inB_nI (by omega) (by omega), ck_true, nI_clamp (by omega), nI_clamp (by omega), g4 _ hb.1, g4 _ hb.2.1, areLike6_s g2 hW.1 d1 d2, some_bind, ifp (bI_0 _)]
        show _ = some (Sum.inl (bI (allN (fun b => likA A (dg (A 0 1) (A 0 0) c (A 14 b)) (dg (A 0 1) (A 0 0) c (A 15 b))) k && likA A (dg (A 0 1) (A 0 0) c (A 14 k)) (dg (A 0 1) (A 0 0) c (A 15 k))), nI (k + 1)))
        cases allN (fun b => likA A (dg (A 0 1) (A 0 0) c (A 14 b)) (dg (A 0 1) (A 0 0) c (A 15 b))) k <;> cases likA A (dg (A 0 1) (A 0 0) c (A 14 k)) (dg (A 0 1) (A 0 0) c (A 15 k)) <;> rfl
      · unfold m_X6_laysPicture_L43
        dsimp +instances only
        rw [g2.n2, if_pos (nI_le (Nat.le_refl _) (by omega))]
        rfl
    rw [hl, some_bind]
    unfold m_X6_laysPicture_K43
    dsimp only
    rw [nz_bI, ck_true]
    exact ⟨r, rfl, g2, g3, g1, g4⟩
  · rintro k ⟨z1, z2, z3⟩ hk ⟨e1, e2, e3, e4, e5, e6⟩
    dsimp only at e1 e2 e3 e4 e5 e6
    subst e1 e2
    left
    have hdk := Nat.div_le_self c (A 0 1 ^ k)
    have em : nI (A 0 0 - k) + (-1) = nI (A 0 0 - k - 1) := sb_m1 (by omega)
    unfold m_X6_laysPicture_L9
    dsimp +instances only
    rw [em, if_neg (nI_pos (by omega)), e4.n1, show dvB (nI (A 0 1)) = true from decide_eq_true (nI_ne0 hn0 (by omega)), ck_true, inB_nI (by omega) (by omega), ck_true, nI_clamp (by omega), pk_rem (by omega) hn0 (by omega), lett_eq, up2_n (show 0 ≠ 30 by decide), e4.n1, show dvB (nI (A 0 1)) = true from decide_eq_true (nI_ne0 hn0 (by omega)), ck_true, pk_div (by omega) hn0 (by omega)]
    refine ⟨_, rfl, ?_, ?_, fun r hr => by dsimp only; rw [up2_n hr, e3 r hr], RM_30 e4, e5.tr (Kp.up (.inr (.inl rfl))), fun p h1 h2 => ?_⟩
    · dsimp only
      rw [Nat.div_div_eq_div_mul, ← Nat.pow_succ]
    · dsimp only
      rw [show A 0 0 - (k + 1) = A 0 0 - k - 1 by omega]
    · dsimp only
      by_cases hpe : p = A 0 0 - k - 1
      · subst hpe
        rw [up2_ss]
        unfold dg
        rw [show A 0 0 - 1 - (A 0 0 - k - 1) = k by omega]
      · rw [up2_si hpe]; exact e6 p (by omega) h2
  · rintro ⟨z1, z2, z3⟩ ⟨e1, e2, e3, e4, e5, e6⟩
    dsimp only at e1 e2 e3 e4 e5 e6
    subst e1 e2
    unfold m_X6_laysPicture_L9
    dsimp +instances only
    rw [Nat.sub_self, if_pos (show nI 0 + (-1) < (0 : Int32) from by decide)]
    exact ⟨_, rfl, e3, e4, e5, fun p hp => e6 p (by omega) hp⟩
theorem possible_s {v7 w : SV} {A S : AS} (hM : RM w 0 A) (hW : WF A) (hS : RepN v7 w S A) {c : Nat} (hc : c < A 0 1 ^ A 0 0) : ∃ w', m_X6_isPossible w (nI c) = some (bI (fitB A (dg (A 0 1) (A 0 0) c) && snB S (dg (A 0 1) (A 0 0) c) (S 0 0)), w') ∧ RM w' 0 A ∧ Kp w w' ∧ (∀ r, r ≠ 30 → w' r = w r) ∧ ∀ p, p < A 0 0 → w' 30 p = nI (dg (A 0 1) (A 0 0) c p) := by
  have hn := hW.1.n
  have hn0 : 0 < A 0 1 := by
    cases hz : A 0 1 with
    | zero => rw [hz, Nat.zero_pow (by omega)] at hc; omega
    | succ k => omega
  obtain ⟨w', h1, h2, h3, h4, h5⟩ := lays_s hM hW hc
  obtain ⟨s1, s2, s3, s4⟩ := hS
  unfold m_X6_isPossible
  rw [h1, some_bind]
  generalize hb0 : fitB A (dg (A 0 1) (A 0 0) c) = b0
  have hl : lpC (m_X6_isPossible_L8 (bI b0, w')) (bI b0, (0 : Int32)) = some (bI (b0 && snB S (dg (A 0 1) (A 0 0) c) (S 0 0)), nI (S 0 0)) := by
    rw [show (bI b0, (0 : Int32)) = (fun k => (bI (b0 && snB S (dg (A 0 1) (A 0 0) c) k), nI k)) 0 from by
      show _ = (bI (b0 && true), nI 0)
      rw [Bool.and_true]
      rfl]
    refine lp_run (step := m_X6_isPossible_L8 (bI b0, w')) (fun k => (bI (b0 && snB S (dg (A 0 1) (A 0 0) c) k), nI k)) (S 0 0) ?_ ?_
    · intro k hk
      obtain ⟨-, -, -, e1, e2, e3, l1, l2, -⟩ := s4 k hk
      have d1 := dg_lt (D := A 0 0) (c := c) (i := S 1 k) hn0
      have d2 := dg_lt (D := A 0 0) (c := c) (i := S 2 k) hn0
      unfold m_X6_isPossible_L8 m_X6_isPossible_J56
      dsimp +instances only
      rw [h4 0 (by decide), s2, if_neg (nI_ge hk (by omega)), h4 31 (by decide), ifp (bI_0 _), li_3, pk_mul, nI_1, nI_1, li_2, nI_add, inB_nI (by omega) (by omega), ck_true, nI_clamp (by omega), e1, inB_nI (by omega) (by omega), ck_true, inB_nI (by omega) (by omega), ck_true, nI_clamp (by omega), e2, inB_nI (by omega) (by omega), ck_true, nI_clamp (by omega), nI_clamp (by omega), h5 _ l1, h5 _ l2, ifp (cast_eq (by omega) (by omega)), inB_nI (by omega) (by omega), ck_true, nI_clamp (by omega), e3]
      show _ = some (Sum.inl (bI (b0 && (snB S (dg (A 0 1) (A 0 0) c) k && (decide (dg (A 0 1) (A 0 0) c (S 1 k) = dg (A 0 1) (A 0 0) c (S 2 k)) == decide (S 3 k = 1)))), nI (k + 1)))
      rw [← Bool.and_assoc]
      cases b0 && snB S (dg (A 0 1) (A 0 0) c) k
      · rw [if_pos rfl]; rfl
      · rw [if_neg (by simp), Bool.true_and]
        by_cases hd : dg (A 0 1) (A 0 0) c (S 1 k) = dg (A 0 1) (A 0 0) c (S 2 k)
        · rw [if_pos hd, decide_eq_true hd]
          cases decide (S 3 k = 1) <;> rfl
        · rw [if_neg hd, decide_eq_false hd]
          cases decide (S 3 k = 1) <;> rfl
    · unfold m_X6_isPossible_L8
      dsimp +instances only
      rw [h4 0 (by decide), s2, if_pos (nI_le (Nat.le_refl _) (by omega))]
  rw [hl, some_bind]
  unfold m_X6_isPossible_K8
  dsimp only
  rw [nz_bI, ck_true]
  exact ⟨w', rfl, h2, h3, h4, h5⟩
theorem many6_s {w : SV} {A : AS} (hM : RM w 0 A) (hW : WF A) : ∃ w', m_X6_many w = some (nI (sumN (fun c => if fitB A (dg (A 0 1) (A 0 0) c) then 1 else 0) (A 0 1 ^ A 0 0)), w') ∧ Kp w w' := by
  have hc2 := pic_le hW.1 (Nat.le_refl (A 0 0))
  unfold m_X6_many
  have := lp_inv (step := m_X6_many_L4) (fun k z => z.1 = nI (sumN (fun c => if fitB A (dg (A 0 1) (A 0 0) c) then 1 else 0) k) ∧ z.2.1 = nI k ∧ RM z.2.2 0 A ∧ Kp w z.2.2) (fun r => r.1 = nI (sumN (fun c => if fitB A (dg (A 0 1) (A 0 0) c) then 1 else 0) (A 0 1 ^ A 0 0)) ∧ Kp w r.2.2) (A 0 1 ^ A 0 0) ?_ ?_ (s0 := ((0 : Int32), (0 : Int32), w)) ⟨rfl, rfl, hM, Kp.rf⟩
  · obtain ⟨r, hr, h1, h2⟩ := this
    rw [hr, some_bind]
    unfold m_X6_many_K4
    rw [h1]
    exact ⟨_, rfl, h2⟩
  · rintro k ⟨z1, z2, z3⟩ hk ⟨e1, e2, e3, e4⟩
    dsimp only at e1 e2 e3 e4
    subst e1 e2
    left
    obtain ⟨w', h1, h2, h3, -, -⟩ := lays_s e3 hW hk
    unfold m_X6_many_L4
    dsimp +instances only
    rw [pictures_s e3 hW.1, some_bind, if_neg (nI_ge hk (by omega)), h1, some_bind, ifp (bI_0 _), ad0, nI_1, nI_1]
    show ∃ s' : Int32 × Int32 × SV, _ = _ ∧ s'.1 = nI (sumN _ k + (if fitB A (dg (A 0 1) (A 0 0) k) then 1 else 0)) ∧ _
    cases fitB A (dg (A 0 1) (A 0 0) k)
    · rw [if_pos rfl]; exact ⟨_, rfl, rfl, rfl, h2, e4.tr h3⟩
    · rw [if_neg (by simp)]; exact ⟨_, rfl, rfl, rfl, h2, e4.tr h3⟩
  · rintro ⟨z1, z2, z3⟩ ⟨e1, e2, e3, e4⟩
    dsimp only at e1 e2 e3 e4
    subst e1 e2
    unfold m_X6_many_L4
    dsimp +instances only
    rw [pictures_s e3 hW.1, some_bind, if_pos (nI_le (Nat.le_refl _) (by omega))]
    exact ⟨_, rfl, rfl, e4⟩
/-- the first of the cheapest -/
def IsBs (P : Nat → Bool) (cost : Nat → Nat) (N : Nat) (o : Option Nat) : Prop := (o = none → ∀ c, c < N → P c = false) ∧ ∀ x, o = some x → x < N ∧ P x = true ∧ ∀ c, c < N → P c = true → cost x < cost c ∨ (cost x = cost c ∧ x ≤ c)
theorem IsBs_u {P P' : Nat → Bool} {cost cost' : Nat → Nat} {N : Nat} {o o' : Option Nat} (h : IsBs P cost N o) (h' : IsBs P' cost' N o') (eP : ∀ c, c < N → P c = P' c) (eC : ∀ c, c < N → cost c = cost' c) : o = o' := by
  cases o with
  | none =>
    cases o' with
    | none => rfl
    | some y =>
      obtain ⟨h1, h2, -⟩ := h'.2 y rfl
      have := h.1 rfl y h1
      rw [eP y h1, h2] at this
      cases this
  | some x =>
    obtain ⟨g1, g2, g3⟩ := h.2 x rfl
    cases o' with
    | none =>
      have := h'.1 rfl x g1
      rw [← eP x g1, g2] at this
      cases this
    | some y =>
      obtain ⟨h1, h2, h3⟩ := h'.2 y rfl
      have a := g3 y h1 (by rw [eP y h1]; exact h2)
      have b := h3 x g1 (by rw [← eP x g1]; exact g2)
      rw [eC x g1, eC y h1] at a
      rw [show x = y by omega]
theorem IsBs_0 (P : Nat → Bool) (cost : Nat → Nat) : IsBs P cost 0 none := ⟨fun _ c hc => absurd hc (Nat.not_lt_zero c), fun x h => by cases h⟩
def bsC (z : Nat) (cost : Nat → Nat) (o : Option Nat) : Nat := match o with
  | none => z
  | some c => cost c
/-- one more picture -/
theorem IsBs_s {P : Nat → Bool} {cost : Nat → Nat} {k z : Nat} {o : Option Nat} (h : IsBs P cost k o) (hz : ∀ c, cost c < z) : IsBs P cost (k + 1) (if P k = true ∧ cost k < bsC z cost o then some k else o) := by
  by_cases hc : P k = true ∧ cost k < bsC z cost o
  · rw [if_pos hc]
    refine ⟨fun e => (by cases e), fun x hx => ?_⟩
    cases hx
    refine ⟨by omega, hc.1, fun c h1 h2 => ?_⟩
    by_cases hck : c = k
    · right; rw [hck]; exact ⟨rfl, Nat.le_refl _⟩
    · cases ho : o with
      | none => have := h.1 ho c (by omega); rw [h2] at this; cases this
      | some y =>
        obtain ⟨g1, g2, g3⟩ := h.2 y ho
        have := g3 c (by omega) h2
        have hlt := hc.2
        rw [ho] at hlt
        simp only [bsC] at hlt
        left
        omega
  · rw [if_neg hc]
    refine ⟨fun ho c h1 => ?_, fun x hx => ?_⟩
    · by_cases hck : c = k
      · subst hck
        cases hP : P c with
        | false => rfl
        | true => exact absurd ⟨hP, by rw [ho]; exact hz c⟩ hc
      · exact h.1 ho c (by omega)
    · obtain ⟨g1, g2, g3⟩ := h.2 x hx
      refine ⟨by omega, g2, fun c h1 h2 => ?_⟩
      by_cases hck : c = k
      · subst hck
        have : ¬ cost c < cost x := fun hlt => hc ⟨h2, by rw [hx]; exact hlt⟩
        by_cases heq : cost x = cost c
        · right; exact ⟨heq, by omega⟩
        · left; omega
      · exact g3 c (by omega) h2
def bsA (u : Nat) (cost : Nat → Nat) (o : Option Nat) : Int32 := match o with
  | none => -4
  | some c => if u = 1 then nI c else nI (cost c)
def mdC (A : AS) (d : Nat → Nat) : Nat := sumN (fun p => if tpA A p = some (d p) then 0 else 1) (A 0 0)
theorem mdC_le {A : AS} (hW : WFb A) (d : Nat → Nat) : mdC A d ≤ 6 := by
  have hn := hW.n
  have := sumN_leN (f := fun p => if tpA A p = some (d p) then 0 else 1) (b := 1) (A 0 0) (fun k _ => by split <;> omega)
  unfold mdC
  omega
theorem mend6_s {w : SV} {A : AS} (hM : RM w 0 A) (hW : WF A) {u : Nat} (hu : u < 2) : ∃ w' o, IsBs (fun c => fitB A (dg (A 0 1) (A 0 0) c)) (fun c => mdC A (dg (A 0 1) (A 0 0) c)) (A 0 1 ^ A 0 0) o ∧ m_X6_mend w (nI u) = some (bsA u (fun c => mdC A (dg (A 0 1) (A 0 0) c)) o, w') ∧ Kp w w' := by
  have hn := hW.1.n
  have hc2 := pic_le hW.1 (Nat.le_refl (A 0 0))
  unfold m_X6_mend
  rw [in_s (k := 2) (by decide) (by omega), some_bind, ix_nI hu (by omega), Option.isSome_some, if_neg (by decide)]
  have := lp_inv (step := m_X6_mend_L22) (fun k z => z.2.2.1 = nI k ∧ RM z.2.2.2 0 A ∧ Kp w z.2.2.2 ∧ ∃ o, z.1 = nI (bsC 1000000 (fun c => mdC A (dg (A 0 1) (A 0 0) c)) o) ∧ z.2.1 = oI o ∧ IsBs (fun c => fitB A (dg (A 0 1) (A 0 0) c)) (fun c => mdC A (dg (A 0 1) (A 0 0) c)) k o) (fun r => Kp w r.2.2.2 ∧ ∃ o, r.1 = nI (bsC 1000000 (fun c => mdC A (dg (A 0 1) (A 0 0) c)) o) ∧ r.2.1 = oI o ∧ IsBs (fun c => fitB A (dg (A 0 1) (A 0 0) c)) (fun c => mdC A (dg (A 0 1) (A 0 0) c)) (A 0 1 ^ A 0 0) o) (A 0 1 ^ A 0 0) ?_ ?_ (s0 := ((1000000 : Int32), (-4 : Int32), (0 : Int32), w)) ⟨rfl, hM, Kp.rf, none, rfl, rfl, IsBs_0 _ _⟩
  · obtain ⟨⟨r1, r2, r3, r4⟩, hr, h1, o, h2, h3, h4⟩ := this
    dsimp only at h1 h2 h3
    subst h2 h3
    rw [hr, some_bind]
    unfold m_X6_mend_K22
    dsimp +instances only
    cases ho : o with
    | none => rw [if_pos (show oI none = -4 from rfl)]; exact ⟨r4, none, ho ▸ h4, rfl, h1⟩
    | some c =>
      obtain ⟨g1, -, -⟩ := h4.2 c ho
      rw [if_neg (show ¬ oI (some c) = -4 by rw [oI_m4 (fun t ht => by cases ht; omega)]; simp), ifp (show (nI u = (1 : Int32)) = (u = 1) from cast_eq (b := 1) (by omega) (by omega))]
      refine ⟨r4, some c, ho ▸ h4, ?_, h1⟩
      unfold bsA
      dsimp only
      split <;> rfl
  · rintro k ⟨z1, z2, z3, z4⟩ hk ⟨e3, e4, e5, o, e1, e2, e6⟩
    dsimp only at e1 e2 e3 e4 e5
    subst e1 e2 e3
    left
    obtain ⟨w', h1, h2, h3, -, h5⟩ := lays_s e4 hW hk
    have hst := IsBs_s e6 (z := 1000000) (fun c => by have := mdC_le hW.1 (dg (A 0 1) (A 0 0) c); omega)
    unfold m_X6_mend_L22
    dsimp +instances only
    rw [pictures_s e4 hW.1, some_bind, if_neg (nI_ge hk (by omega)), h1, some_bind, ifp (bI_0 _)]
    cases hf : fitB A (dg (A 0 1) (A 0 0) k) with
    | false =>
      rw [if_pos rfl, nI_1]
      rw [if_neg (by rw [hf]; simp)] at hst
      exact ⟨_, rfl, rfl, h2, e5.tr h3, o, rfl, rfl, hst⟩
    | true =>
      rw [if_neg (by simp)]
      have hm := mdC_le hW.1 (dg (A 0 1) (A 0 0) k)
      have hl : lpC (m_X6_mend_L46 (bI true, w')) ((0 : Int32), (0 : Int32)) = some (nI (mdC A (dg (A 0 1) (A 0 0) k)), nI (A 0 0)) := by
        rw [show ((0 : Int32), (0 : Int32)) = (fun j => (nI (sumN (fun p => if tpA A p = some (dg (A 0 1) (A 0 0) k p) then 0 else 1) j), nI j)) 0 from rfl]
        refine lp_run (step := m_X6_mend_L46 (bI true, w')) (fun j => (nI (sumN (fun p => if tpA A p = some (dg (A 0 1) (A 0 0) k p) then 0 else 1) j), nI j)) (A 0 0) ?_ ?_
        · intro j hj
          have hn0 : 0 < A 0 1 := by
            cases hz : A 0 1 with
            | zero => rw [hz, Nat.zero_pow (by omega)] at hk; omega
            | succ k => omega
          have d1 := dg_lt (D := A 0 0) (c := k) (i := j) hn0
          unfold m_X6_mend_L46
          dsimp +instances only
          rw [h2.n0, if_neg (nI_ge hj (by omega)), show m_X6_topOn w' (0 : Int32) (nI j) = some (oI (tpA A j)) from topOn_s h2 hW.1 (by omega) hj, some_bind, inB_nI (by omega) (by omega), ck_true, nI_clamp (by omega), h5 j hj, show nI (dg (A 0 1) (A 0 0) k j) = oI (some (dg (A 0 1) (A 0 0) k j)) from rfl, ifp (oI_eq (fun t ht => by have := tpA_5 hW (by omega) ht; omega) (fun t ht => by cases ht; omega)), ad0, nI_1, nI_1]
          show _ = some (Sum.inl (nI (sumN _ j + (if tpA A j = some (dg (A 0 1) (A 0 0) k j) then 0 else 1)), nI (j + 1)))
          by_cases hc : tpA A j = some (dg (A 0 1) (A 0 0) k j)
          · rw [if_pos hc, if_pos hc]; rfl
          · rw [if_neg hc, if_neg hc]
        · unfold m_X6_mend_L46
          dsimp +instances only
          rw [h2.n0, if_pos (nI_le (Nat.le_refl _) (by omega))]
          rfl
      rw [hl, some_bind]
      unfold m_X6_mend_K46
      dsimp +instances only
      have hbs : bsC 1000000 (fun c => mdC A (dg (A 0 1) (A 0 0) c)) o ≤ 1000000 := by
        unfold bsC
        split
        · omega
        · rename_i c; have := mdC_le hW.1 (dg (A 0 1) (A 0 0) c); dsimp only; omega
      rw [ifp (cast_le (by omega) (by omega)), ifp (cast_le (by omega) (by omega)), ifp (cast_le (by omega) (by omega)), nI_1]
      by_cases hc : mdC A (dg (A 0 1) (A 0 0) k) < bsC 1000000 (fun c => mdC A (dg (A 0 1) (A 0 0) c)) o
      · rw [if_pos ⟨hf, hc⟩] at hst
        rw [if_neg (by omega), if_neg (by omega)]
        exact ⟨_, rfl, rfl, h2, e5.tr h3, some k, rfl, rfl, hst⟩
      · rw [if_neg (by rintro ⟨-, h⟩; exact hc h)] at hst
        rw [if_pos (by omega), if_pos (by omega)]
        exact ⟨_, rfl, rfl, h2, e5.tr h3, o, rfl, rfl, hst⟩
  · rintro ⟨z1, z2, z3, z4⟩ ⟨e3, e4, e5, o, e1, e2, e6⟩
    dsimp only at e1 e2 e3 e4 e5
    subst e1 e2 e3
    unfold m_X6_mend_L22
    dsimp +instances only
    rw [pictures_s e4 hW.1, some_bind, if_pos (nI_le (Nat.le_refl _) (by omega))]
    exact ⟨_, rfl, e5, o, rfl, rfl, e6⟩
