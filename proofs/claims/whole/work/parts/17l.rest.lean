/-! ===== PURE: tape, seen, sheets, images: both sides ===== -/
def RepT (v w : SV) (n : Nat) (t : Nat → Nat) : Prop := v 0 1 = nI n ∧ w 0 19 = nI n ∧ n ≤ 160 ∧ ∀ i, i < n → v 50 i = nI (t i) ∧ w 18 i = nI (t i) ∧ t i ≤ 127
theorem by_id : ∀ c, c < 128 → vp_nar .byte ((nI c).toInt8.toInt32) = nI c := by
  have h : ∀ c, c < 128 → (nI c).toInt8.toInt32 = nI c := by decide +kernel
  intro c hc
  rw [vp_nar_byte, h c hc, h c hc]
/-- only these rows and numbers change -/
def FrR (w w' : SV) (rs : List Nat) (ns : List Nat) : Prop := (∀ k, k ≠ 0 → k ∉ rs → w' k = w k) ∧ ∀ j, j ∉ ns → w' 0 j = w 0 j
theorem FrR.rf {w : SV} {rs ns : List Nat} : FrR w w rs ns := ⟨fun _ _ _ => rfl, fun _ _ => rfl⟩
theorem feed_b (v0 u : SV) {v w : SV} {n : Nat} {t : Nat → Nat} (h : RepT v w n t) (x : Int32) : ∃ a v' w' n' t', m_X5_feed v0 v u x = some (a, v') ∧ m_X6_feed w x = some (a, w') ∧ RepT v' w' n' t' ∧ v' 0 3 = v 0 3 ∧ FrR w w' [18] [19] := by
  obtain ⟨h1, h2, h3, h4⟩ := h
  unfold m_X5_feed m_X6_feed
  rw [within_s (k := 128) (by decide) (by omega), in_s (k := 128) (by decide) (by omega), some_bind, some_bind]
  cases hx : ix x 128 with
  | none => exact ⟨_, _, _, n, t, rfl, rfl, ⟨h1, h2, h3, h4⟩, rfl, FrR.rf⟩
  | some c =>
    obtain ⟨rfl, hc⟩ := ix_some hx
    simp only [Option.isSome_some, bI, if_true, ne10, if_false]
    unfold m_X0_take
    rw [h1, h2, show (160 : Int32) = nI 160 from rfl, ifp (cast_lt (by omega) (by omega)), ifp (cast_eq (by omega) (by omega))]
    by_cases hn : n < 160
    · rw [if_pos hn, if_neg (by omega), inB_nI hn (by omega), ck_true, ck_true, nI_clamp (by omega), by_id c hc]
      simp only [lett_eq]
      rw [show ∀ y : Int32, up2 v 50 n y 0 1 = nI n from fun y => by rw [up2_n (by decide), h1], show ∀ y : Int32, up2 w 18 n y 0 19 = nI n from fun y => by rw [up2_n (by decide), h2], some_bind, nI_1]
      dsimp only
      rw [if_neg (by decide), up2_ss, up2_ss]
      refine ⟨_, _, _, n + 1, (fun i => if i = n then c else t i), rfl, rfl, ⟨up2_ss, up2_ss, by omega, fun i hi => ?_⟩, ?_, ?_, ?_⟩
      · dsimp only
        rw [up2_n (show 50 ≠ 0 by decide), up2_n (show 18 ≠ 0 by decide)]
        by_cases hin : i = n
        · subst hin
          rw [up2_ss, up2_ss, if_pos rfl]
          exact ⟨rfl, rfl, by omega⟩
        · rw [up2_si hin, up2_si hin, if_neg hin]
          exact h4 i (by omega)
      · rw [up2_si (by decide), up2_n (by decide)]
      · intro k k0 hk
        rw [up2_n k0, up2_n (by intro e; exact hk (by rw [e]; exact List.mem_singleton_self _))]
      · intro j hj
        rw [up2_si (by intro e; exact hj (by rw [e]; exact List.mem_singleton_self _)), up2_n (by decide)]
    · rw [if_neg hn, if_pos (by omega), some_bind]
      exact ⟨_, _, _, n, t, rfl, rfl, ⟨h1, h2, h3, h4⟩, rfl, FrR.rf⟩
theorem end_b (v0 u : SV) {v w : SV} {n : Nat} {t : Nat → Nat} (h : RepT v w n t) (x : Int32) : ∃ a v' w' n' t', m_X5_end v0 v u x = some (a, v') ∧ m_X6_end w x = some (a, w') ∧ RepT v' w' n' t' ∧ v' 0 3 = v 0 3 ∧ FrR w w' [18] [19] := by
  obtain ⟨h1, h2, h3, h4⟩ := h
  unfold m_X5_end m_X6_end
  rw [h1, h2, within_s (k := n + 1) (nI_pred n).symm (by omega), in_s (k := n + 1) (by rw [nI_64 (by omega)]; omega) (by omega), some_bind, some_bind]
  cases hx : ix x (n + 1) with
  | none => exact ⟨_, _, _, n, t, rfl, rfl, ⟨h1, h2, h3, h4⟩, rfl, FrR.rf⟩
  | some c =>
    obtain ⟨rfl, hc⟩ := ix_some hx
    simp only [Option.isSome_some, bI, if_true, ne10, if_false, lett_eq]
    refine ⟨_, _, _, c, t, rfl, rfl, ⟨up2_ss, up2_ss, by omega, fun i hi => ?_⟩, up2_si (by decide), fun k k0 _ => up2_n k0, fun j hj => up2_si (by intro e; exact hj (by rw [e]; exact List.mem_singleton_self _))⟩
    rw [up2_n (by decide), up2_n (by decide)]
    exact h4 i (by omega)
theorem up2_v {v : SV} {k i j : Nat} {x : Int32} : up2 v k i x k j = if j = i then x else v k j := by
  by_cases h : j = i
  · subst h; rw [up2_ss, if_pos rfl]
  · rw [up2_si h, if_neg h]
/-! seen -/
def RepN (v w : SV) (S A : AS) : Prop := v 0 0 = nI (S 0 0) ∧ w 0 32 = nI (S 0 0) ∧ S 0 0 ≤ 6 ∧ ∀ k, k < S 0 0 → v 1 k = nI (S 1 k) ∧ v 2 k = nI (S 2 k) ∧ v 3 k = bI (decide (S 3 k = 1)) ∧ w 31 (3 * k) = nI (S 1 k) ∧ w 31 (3 * k + 1) = nI (S 2 k) ∧ w 31 (3 * k + 2) = bI (decide (S 3 k = 1)) ∧ S 1 k < A 0 0 ∧ S 2 k < A 0 0 ∧ S 1 k ≠ S 2 k
theorem nar_b (b : Bool) : vp_nar .boolean (bI b) = bI b := by cases b <;> decide
theorem li_18 : (18 : Int32) = nI 18 := rfl
theorem see_b (v0 : SV) {v1 v w : SV} {A S : AS} (hR : RepC v1 A) (hM : RM w 0 A) (hW : WFb A) (h : RepN v w S A) (x1 x2 : Int32) (b : Bool) : ∃ a v' w' S', m_X5_see v0 v1 v x1 x2 (bI b) = some (a, v') ∧ m_X6_see w x1 x2 (bI b) = some (a, w') ∧ RepN v' w' S' A ∧ FrR w w' [31] [32] := by
  have hn := hW.n
  have hold := h
  obtain ⟨h1, h2, h3, h4⟩ := h
  unfold m_X5_see m_X6_see
  rw [hasPart_s hR hW, isPart_s hM hW, some_bind, some_bind]
  cases hx : ix x1 (A 0 0) with
  | none => exact ⟨_, _, _, S, rfl, rfl, hold, FrR.rf⟩
  | some p =>
    obtain ⟨rfl, hp⟩ := ix_some hx
    simp only [Option.isSome_some, show bI true = 1 from rfl, if_true, ne10, if_false]
    rw [hasPart_s hR hW, isPart_s hM hW, some_bind, some_bind]
    cases hy : ix x2 (A 0 0) with
    | none => exact ⟨_, _, _, S, rfl, rfl, hold, FrR.rf⟩
    | some q =>
      obtain ⟨rfl, hq⟩ := ix_some hy
      simp only [Option.isSome_some, show bI true = 1 from rfl, if_true, ne10, if_false]
      rw [ifp (cast_eq (a := p) (b := q) (by omega) (by omega)), ifp (cast_eq (a := p) (b := q) (by omega) (by omega))]
      by_cases hpq : p = q
      · rw [if_pos hpq, if_pos hpq]; exact ⟨_, _, _, S, rfl, rfl, hold, FrR.rf⟩
      · rw [if_neg hpq, if_neg hpq]
        unfold m_X1_add
        rw [h1, h2, li_6, ifp (cast_lt (by omega) (by omega)), ifp (cast_eq (by omega) (by omega))]
        by_cases hn6 : S 0 0 < 6
        · rw [if_pos hn6, if_neg (by omega)]

          have h00 : ∀ (k i : Nat) (y : Int32), k ≠ 0 → up2 v k i y 0 0 = nI (S 0 0) := fun k i y hk => by rw [up2_n (Ne.symm hk), h1]
          have e3 : ∀ b : Bool, (if bI b = 0 then (0 : Int32) else 1) = bI b := fun b => by cases b <;> rfl
          simp only [lett_eq]
          rw [h00 1 _ _ (by decide), inB_nI (by omega) (by omega), ck_true, ck_true, nI_clamp (by omega)]
          rw [show ∀ x y : Int32, up2 (up2 v 1 (S 0 0) x) 2 (S 0 0) y 0 0 = nI (S 0 0) from fun x y => by rw [up2_n (by decide), up2_n (by decide), h1], inB_nI (by omega) (by omega), ck_true, nI_clamp (by omega)]
          rw [show ∀ x y z : Int32, up2 (up2 (up2 v 1 (S 0 0) x) 2 (S 0 0) y) 3 (S 0 0) z 0 0 = nI (S 0 0) from fun x y z => by rw [up2_n (by decide), up2_n (by decide), up2_n (by decide), h1], some_bind, nar_b, nI_1]
          dsimp only
          rw [if_neg (by decide), up2_ss]
          rw [li_3, pk_mul, inB_nI (by omega) (by omega), ck_true, nI_clamp (by omega)]
          rw [show ∀ x : Int32, up2 w 31 (3 * S 0 0) x 0 32 = nI (S 0 0) from fun x => by rw [up2_n (by decide), h2], pk_mul, nI_1, inB_nI (by omega) (by omega), ck_true, nI_clamp (by omega)]
          rw [show ∀ x y : Int32, up2 (up2 w 31 (3 * S 0 0) x) 31 (3 * S 0 0 + 1) y 0 32 = nI (S 0 0) from fun x y => by rw [up2_n (by decide), up2_n (by decide), h2], pk_mul, li_2, nI_add, inB_nI (by omega) (by omega), ck_true, ck_true, nI_clamp (by omega)]
          rw [show ∀ x y z : Int32, up2 (up2 (up2 w 31 (3 * S 0 0) x) 31 (3 * S 0 0 + 1) y) 31 (3 * S 0 0 + 2) z 0 32 = nI (S 0 0) from fun x y z => by rw [up2_n (by decide), up2_n (by decide), up2_n (by decide), h2], show ∀ x y z : Int32, up2 (up2 (up2 w 31 (3 * S 0 0) x) 31 (3 * S 0 0 + 1) y) 31 (3 * S 0 0 + 2) z 0 32 = nI (S 0 0) from fun x y z => by rw [up2_n (by decide), up2_n (by decide), up2_n (by decide), h2], nI_1, up2_ss, up2_ss]
          have hif : (if bI b = 0 then some (nI (S 0 0 + 1), up2 (up2 (up2 (up2 w 31 (3 * S 0 0) (nI p)) 31 (3 * S 0 0 + 1) (nI q)) 31 (3 * S 0 0 + 2) 0) 0 32 (nI (S 0 0 + 1))) else some (nI (S 0 0 + 1), up2 (up2 (up2 (up2 w 31 (3 * S 0 0) (nI p)) 31 (3 * S 0 0 + 1) (nI q)) 31 (3 * S 0 0 + 2) 1) 0 32 (nI (S 0 0 + 1)))) = some (nI (S 0 0 + 1), up2 (up2 (up2 (up2 w 31 (3 * S 0 0) (nI p)) 31 (3 * S 0 0 + 1) (nI q)) 31 (3 * S 0 0 + 2) (bI b)) 0 32 (nI (S 0 0 + 1))) := by cases b <;> rfl
          obtain ⟨S', s0, s1, s2, s3⟩ : ∃ S' : AS, S' 0 0 = S 0 0 + 1 ∧ (∀ i, S' 1 i = if i = S 0 0 then p else S 1 i) ∧ (∀ i, S' 2 i = if i = S 0 0 then q else S 2 i) ∧ (∀ i, S' 3 i = if i = S 0 0 then (if b then 1 else 0) else S 3 i) := ⟨fun r i => if r = 0 then S 0 0 + 1 else if r = 1 then (if i = S 0 0 then p else S 1 i) else if r = 2 then (if i = S 0 0 then q else S 2 i) else (if i = S 0 0 then (if b then 1 else 0) else S 3 i), rfl, fun _ => rfl, fun _ => rfl, fun _ => rfl⟩
          refine ⟨_, _, _, S', rfl, hif, ⟨by rw [up2_ss, s0], by rw [up2_ss, s0], by omega, ?_⟩, ?_, ?_⟩
          · intro k hk
            rw [s0] at hk
            have f1 : ∀ x y z u : Int32, ∀ i, up2 (up2 (up2 (up2 v 1 (S 0 0) x) 2 (S 0 0) y) 3 (S 0 0) z) 0 0 u 1 i = if i = S 0 0 then x else v 1 i := fun x y z u i => by rw [up2_n (show 1 ≠ 0 by decide), up2_n (show 1 ≠ 3 by decide), up2_n (show 1 ≠ 2 by decide), up2_v]
            have f2 : ∀ x y z u : Int32, ∀ i, up2 (up2 (up2 (up2 v 1 (S 0 0) x) 2 (S 0 0) y) 3 (S 0 0) z) 0 0 u 2 i = if i = S 0 0 then y else v 2 i := fun x y z u i => by rw [up2_n (show 2 ≠ 0 by decide), up2_n (show 2 ≠ 3 by decide), up2_v, up2_n (show 2 ≠ 1 by decide)]
            have f3 : ∀ x y z u : Int32, ∀ i, up2 (up2 (up2 (up2 v 1 (S 0 0) x) 2 (S 0 0) y) 3 (S 0 0) z) 0 0 u 3 i = if i = S 0 0 then z else v 3 i := fun x y z u i => by rw [up2_n (show 3 ≠ 0 by decide), up2_v, up2_n (show 3 ≠ 2 by decide), up2_n (show 3 ≠ 1 by decide)]
            have f4 : ∀ x y z u : Int32, ∀ i, up2 (up2 (up2 (up2 w 31 (3 * S 0 0) x) 31 (3 * S 0 0 + 1) y) 31 (3 * S 0 0 + 2) z) 0 32 u 31 i = if i = 3 * S 0 0 + 2 then z else if i = 3 * S 0 0 + 1 then y else if i = 3 * S 0 0 then x else w 31 i := fun x y z u i => by rw [up2_n (show 31 ≠ 0 by decide), up2_v, up2_v, up2_v]
            rw [f1, f2, f3, f4, f4, f4, s1, s2, s3]
            by_cases hkS : k = S 0 0
            · subst hkS
              rw [if_neg (show ¬ 3 * S 0 0 = 3 * S 0 0 + 2 by omega), if_neg (show ¬ 3 * S 0 0 = 3 * S 0 0 + 1 by omega), if_neg (show ¬ 3 * S 0 0 + 1 = 3 * S 0 0 + 2 by omega)]
              simp only [if_true]
              refine ⟨trivial, trivial, ?_, trivial, trivial, ?_, hp, hq, hpq⟩ <;> cases b <;> rfl
            · rw [if_neg (show ¬ 3 * k = 3 * S 0 0 + 2 by omega), if_neg (show ¬ 3 * k = 3 * S 0 0 + 1 by omega), if_neg (show ¬ 3 * k = 3 * S 0 0 by omega), if_neg (show ¬ 3 * k + 1 = 3 * S 0 0 + 2 by omega), if_neg (show ¬ 3 * k + 1 = 3 * S 0 0 + 1 by omega), if_neg (show ¬ 3 * k + 1 = 3 * S 0 0 by omega), if_neg (show ¬ 3 * k + 2 = 3 * S 0 0 + 2 by omega), if_neg (show ¬ 3 * k + 2 = 3 * S 0 0 + 1 by omega), if_neg (show ¬ 3 * k + 2 = 3 * S 0 0 by omega)]
              simp only [hkS, if_false]
              exact h4 k (by omega)
          · intro k k0 hk
            have : k ≠ 31 := by intro e; exact hk (by rw [e]; exact List.mem_singleton_self _)
            rw [up2_n k0, up2_n this, up2_n this, up2_n this]
          · intro j hj
            have : j ≠ 32 := by intro e; exact hj (by rw [e]; exact List.mem_singleton_self _)
            rw [up2_si this, up2_n (by decide), up2_n (by decide), up2_n (by decide)]
        · rw [if_neg hn6, if_pos (by omega), some_bind]
          exact ⟨_, _, _, S, rfl, rfl, hold, FrR.rf⟩
theorem forget_b (v0 : SV) {v w : SV} {A S : AS} (h : RepN v w S A) (x : Int32) : ∃ a v' w' S', m_X5_forget v0 v x = some (a, v') ∧ m_X6_forget w x = some (a, w') ∧ RepN v' w' S' A ∧ FrR w w' [31] [32] := by
  have hold := h
  obtain ⟨h1, h2, h3, h4⟩ := h
  unfold m_X5_forget m_X6_forget
  rw [h1, h2, within_s (k := S 0 0 + 1) (nI_pred _).symm (by omega), in_s (k := S 0 0 + 1) (by rw [nI_64 (by omega)]; omega) (by omega), some_bind, some_bind]
  cases hx : ix x (S 0 0 + 1) with
  | none => exact ⟨_, _, _, S, rfl, rfl, hold, FrR.rf⟩
  | some c =>
    obtain ⟨rfl, hc⟩ := ix_some hx
    simp only [Option.isSome_some, bI, if_true, ne10, if_false, lett_eq]
    refine ⟨_, _, _, aset S 0 0 c, rfl, rfl, ⟨by rw [up2_ss, aset_s], by rw [up2_ss, aset_s], by rw [aset_s]; omega, fun k hk => ?_⟩, fun k k0 _ => up2_n k0, fun j hj => up2_si (by intro e; exact hj (by rw [e]; exact List.mem_singleton_self _))⟩
    rw [aset_s] at hk
    rw [up2_n (by decide), up2_n (by decide), up2_n (by decide), up2_n (by decide), aset_r (by decide), aset_r (by decide), aset_r (by decide)]
    exact h4 k (by omega)
/-! sheets -/
def ShR (v w : SV) (k : Nat) : Prop := (v 0 1 = -1 ∧ w 36 k = -4) ∨ ∃ l n, l ≤ 2 ∧ n ≤ 40 ∧ v 0 0 = nI l ∧ w 36 k = nI l ∧ v 0 1 = nI n ∧ w 37 k = nI n ∧ ∀ i, i < n → v 2 i = w 38 (40 * k + i)
theorem ShR_f {v w w' : SV} {k : Nat} (h : ShR v w k) (h36 : w' 36 k = w 36 k) (h37 : w' 37 k = w 37 k) (h38 : ∀ i, i < 40 → w' 38 (40 * k + i) = w 38 (40 * k + i)) : ShR v w' k := by
  rcases h with ⟨h1, h2⟩ | ⟨l, n, h1, h2, h3, h4, h5, h6, h7⟩
  · exact .inl ⟨h1, by rw [h36, h2]⟩
  · exact .inr ⟨l, n, h1, h2, h3, by rw [h36, h4], h5, by rw [h37, h6], fun i hi => by rw [h38 i (by omega)]; exact h7 i hi⟩
theorem isThere_s {v w : SV} {k : Nat} (h : ShR v w k) : m_X2_isThere v = some (bI (decide (¬ w 36 k = -4))) := by
  unfold m_X2_isThere
  rcases h with ⟨h1, h2⟩ | ⟨l, n, h1, h2, h3, h4, h5, h6, h7⟩
  · rw [if_pos h1, h2]; rfl
  · have e1 : ¬ v 0 1 = -1 := by
      rw [h5]; intro e
      have := congrArg Int32.toInt e
      rw [nI_toInt (by omega), show (-1 : Int32).toInt = -1 from rfl] at this
      omega
    have e2 : ¬ w 36 k = -4 := by
      rw [h4]; intro e
      have := congrArg Int32.toInt e
      rw [nI_toInt (by omega), show (-4 : Int32).toInt = -4 from rfl] at this
      omega
    rw [if_neg e1, show decide (¬ w 36 k = -4) = true from decide_eq_true e2]; rfl
theorem renew_s (v : SV) (x y : Int32) : ∃ v', m_X2_renew v x y = some v' ∧ v' 0 0 = x ∧ v' 0 1 = y ∧ ∀ i, i < 40 → v' 2 i = 0 := by
  unfold m_X2_renew
  simp only [lett_eq, fill_s (n := 40) (by omega), some_bind]
  refine ⟨_, rfl, ?_, ?_, fun i hi => ?_⟩
  · rw [upr_n (by decide), up2_si (by decide), up2_ss]
  · rw [upr_n (by decide), up2_ss]
  · rw [upr_s, if_pos hi]
theorem sheet6_s (w : SV) {k : Nat} (hk : k < 4) (w0 : SV) : ∃ r, lpC (m_X6_sheet_L56 (nI k)) ((0 : Int32), w0) = some r ∧ ((∀ j, j ≠ 38 → r.2 j = w0 j) ∧ (∀ i, i < 40 → r.2 38 (40 * k + i) = 0) ∧ ∀ i, (i < 40 * k ∨ 40 * k + 40 ≤ i) → r.2 38 i = w0 38 i) := by
  refine lp_inv (step := m_X6_sheet_L56 (nI k)) (fun j z => z.1 = nI j ∧ (∀ r, r ≠ 38 → z.2 r = w0 r) ∧ (∀ i, i < j → z.2 38 (40 * k + i) = 0) ∧ ∀ i, (i < 40 * k ∨ 40 * k + 40 ≤ i) → z.2 38 i = w0 38 i) _ 40 ?_ ?_ (s0 := ((0 : Int32), w0)) ⟨rfl, fun _ _ => rfl, fun i hi => absurd hi (Nat.not_lt_zero i), fun _ _ => rfl⟩
  · rintro j ⟨z1, z2⟩ hj ⟨e1, e2, e3, e4⟩
    dsimp only at e1 e2 e3 e4
    subst e1
    left
    unfold m_X6_sheet_L56
    dsimp +instances only
    rw [show (40 : Int32) = nI 40 from rfl, if_neg (nI_ge hj (by omega)), pk_mul, nI_add, inB_nI (by omega) (by omega), ck_true, nI_clamp (by omega), lett_eq, nI_1]
    refine ⟨_, rfl, rfl, fun r hr => by dsimp only; rw [up2_n hr, e2 r hr], fun i hi => ?_, fun i hi => ?_⟩
    · dsimp only
      by_cases hij : i = j
      · subst hij; rw [up2_ss]
      · rw [up2_si (by omega)]; exact e3 i (by omega)
    · dsimp only
      rw [up2_si (by omega)]; exact e4 i hi
  · rintro ⟨z1, z2⟩ ⟨e1, e2, e3, e4⟩
    dsimp only at e1 e2 e3 e4
    subst e1
    unfold m_X6_sheet_L56
    dsimp +instances only
    rw [show (40 : Int32) = nI 40 from rfl, if_pos (nI_le (Nat.le_refl _) (by omega))]
    exact ⟨_, rfl, e2, e3, e4⟩
theorem le40 {x : Int32} : (x ≤ (40 : Int32)) = (x.toInt ≤ 40) := propext Int32.le_iff_toInt_le
theorem pos0 {x : Int32} : ((0 : Int32) ≤ x) = (0 ≤ x.toInt) := propext Int32.le_iff_toInt_le
theorem sheet_b (v0 : SV) {V : Nat → SV} {w : SV} (h : ∀ k, k < 4 → ShR (V k) w k) (x1 x2 x3 : Int32) : ∃ a, ∃ V' : Nat → SV, ∃ w', m_X5_sheet v0 (V 0) (V 1) (V 2) (V 3) x1 x2 x3 = some (a, V' 0, V' 1, V' 2, V' 3) ∧ m_X6_sheet w x1 x2 x3 = some (a, w') ∧ (∀ k, k < 4 → ShR (V' k) w' k) ∧ FrR w w' [36, 37, 38] [] := by
  unfold m_X5_sheet m_X6_sheet
  rw [within_s (k := 4) (by decide) (by omega), in_s (k := 4) (by decide) (by omega), within_s (k := 3) (by decide) (by omega), in_s (k := 3) (by decide) (by omega), some_bind, some_bind]
  cases hx : ix x1 4 with
  | none => exact ⟨_, V, w, rfl, rfl, h, FrR.rf⟩
  | some k =>
    obtain ⟨rfl, hk⟩ := ix_some hx
    simp only [Option.isSome_some, bI, if_true, ne10, if_false, some_bind]
    cases hy : ix x2 3 with
    | none => exact ⟨_, V, w, rfl, rfl, h, FrR.rf⟩
    | some l =>
      obtain ⟨rfl, hl⟩ := ix_some hy
      simp only [Option.isSome_some, if_true, ne10, if_false]
      by_cases h40 : x3 ≤ (40 : Int32)
      · rw [if_pos h40, if_pos h40]
        by_cases hp : (0 : Int32) ≤ x3
        · rw [if_pos hp, if_pos hp]
          rw [le40] at h40
          rw [pos0] at hp
          obtain ⟨n, hn, rfl⟩ : ∃ n, n ≤ 40 ∧ x3 = nI n := by
            refine ⟨x3.toInt.toNat, by omega, ?_⟩
            apply Int32.toInt_inj.mp
            rw [nI_toInt (by omega)]
            omega
          rw [inB_nI hk (by omega)]
          simp only [ck_true, lett_eq]
          rw [nI_clamp (by omega)]
          obtain ⟨⟨r1, r2⟩, hr, q1, q2, q3⟩ := sheet6_s w hk (up2 (up2 w 36 k (nI l)) 37 k (nI n))
          dsimp only at q1 q2 q3
          rw [hr, some_bind]
          unfold m_X6_sheet_K56
          obtain ⟨v', f1, f2, f3, f4⟩ := renew_s (V k) (nI l) (nI n)
          have hsh : ∀ j, j < 4 → ShR ((fun j => if j = k then v' else V j) j) r2 j := by
            intro j hj
            dsimp only
            by_cases hjk : j = k
            · subst hjk
              rw [if_pos rfl]
              refine .inr ⟨l, n, by omega, hn, f2, ?_, f3, ?_, fun i hi => by rw [f4 i (by omega), q2 i (by omega)]⟩
              · rw [q1 36 (by decide), up2_n (by decide), up2_ss]
              · rw [q1 37 (by decide), up2_ss]
            · rw [if_neg hjk]
              refine ShR_f (h j hj) ?_ ?_ (fun i hi => ?_)
              · rw [q1 36 (by decide), up2_n (by decide), up2_si hjk]
              · rw [q1 37 (by decide), up2_si hjk, up2_n (by decide)]
              · rw [q3 _ (by omega), up2_n (by decide), up2_n (by decide)]
          have hfr : FrR w r2 [36, 37, 38] [] := by
            refine ⟨fun j j0 hj => ?_, fun j _ => ?_⟩
            · simp only [List.mem_cons, List.not_mem_nil, or_false, not_or] at hj
              rw [q1 j hj.2.2, up2_n hj.2.1, up2_n hj.1]
            · rw [q1 0 (by decide), up2_n (by decide), up2_n (by decide)]
          refine ⟨1, (fun j => if j = k then v' else V j), r2, ?_, rfl, hsh, hfr⟩
          have : k = 0 ∨ k = 1 ∨ k = 2 ∨ k = 3 := by omega
          rcases this with rfl | rfl | rfl | rfl
          · rw [if_pos (show nI 0 = (0 : Int32) from rfl), f1]; rfl
          · rw [if_neg (show ¬ nI 1 = (0 : Int32) from by decide), if_pos (show nI 1 = (1 : Int32) from rfl), f1]; rfl
          · rw [if_neg (show ¬ nI 2 = (0 : Int32) from by decide), if_neg (show ¬ nI 2 = (1 : Int32) from by decide), if_pos (show nI 2 = (2 : Int32) from rfl), f1]; rfl
          · rw [if_neg (show ¬ nI 3 = (0 : Int32) from by decide), if_neg (show ¬ nI 3 = (1 : Int32) from by decide), if_neg (show ¬ nI 3 = (2 : Int32) from by decide), if_pos (show nI 3 = (3 : Int32) from rfl), f1]; rfl
        · rw [if_neg hp, if_neg hp]
          exact ⟨_, V, w, rfl, rfl, h, FrR.rf⟩
      · rw [if_neg h40, if_neg h40]
        exact ⟨_, V, w, rfl, rfl, h, FrR.rf⟩
theorem shB (x : Int32) : (x <<< ((24 : Int32) &&& 31)) >>> ((24 : Int32) &&& 31) = x.toInt8.toInt32 := by
  apply Int32.toInt_inj.mp
  rw [Int8.toInt_toInt32, Int32.toInt_toInt8, pk_shr _ ((24 : Int32) &&& 31) 24 (by decide), Int.shiftRight_eq_div_pow]
  have h := pk_shl x ((24 : Int32) &&& 31) 24 (by decide)
  generalize x <<< ((24 : Int32) &&& 31) = y at h ⊢
  have hy : y.toInt = y.toBitVec.toInt := rfl
  have hz : x.toInt = x.toBitVec.toInt := rfl
  rw [hy, hz, BitVec.toInt_eq_toNat_cond, BitVec.toInt_eq_toNat_cond, Int.bmod_def]
  have hy2 := y.toBitVec.isLt
  have hz2 := x.toBitVec.isLt
  generalize y.toBitVec.toNat = a at h hy2 ⊢
  generalize x.toBitVec.toNat = b at h hz2 ⊢
  split <;> split <;> split <;> omega
theorem shS (x : Int32) : (x <<< ((16 : Int32) &&& 31)) >>> ((16 : Int32) &&& 31) = x.toInt16.toInt32 := by
  apply Int32.toInt_inj.mp
  rw [Int16.toInt_toInt32, Int32.toInt_toInt16, pk_shr _ ((16 : Int32) &&& 31) 16 (by decide), Int.shiftRight_eq_div_pow]
  have h := pk_shl x ((16 : Int32) &&& 31) 16 (by decide)
  generalize x <<< ((16 : Int32) &&& 31) = y at h ⊢
  have hy : y.toInt = y.toBitVec.toInt := rfl
  have hz : x.toInt = x.toBitVec.toInt := rfl
  rw [hy, hz, BitVec.toInt_eq_toNat_cond, BitVec.toInt_eq_toNat_cond, Int.bmod_def]
  have hy2 := y.toBitVec.isLt
  have hz2 := x.toBitVec.isLt
  generalize y.toBitVec.toNat = a at h hy2 ⊢
  generalize x.toBitVec.toNat = b at h hz2 ⊢
  split <;> split <;> split <;> omega
