/-! ===== PURE: the operations, both sides, one by one ===== -/
def R13 (v0 v1 v3 v4 v5 v7 v8 v9 v10 v11 v12 w : SV) : Prop := v8 10 0 = nI 0 ∧ ∃ A, RepC v1 A ∧ WF A ∧ A 0 4 < 1000 ∧ RM w 0 A ∧ Oth v0 v3 v4 v5 v7 v9 v10 v11 v12 w A
def Rel2 (G : Nat → SV) (w : SV) : Prop := R13 (G 0) (G 1) (G 3) (G 4) (G 5) (G 7) (G 8) (G 9) (G 10) (G 11) (G 12) w
theorem mkR {v0 v1 v2 v3 v4 v5 v6 v7 v8 v9 v10 v11 v12 w : SV} (h : R13 v0 v1 v3 v4 v5 v7 v8 v9 v10 v11 v12 w) : Rel2 (mkG v0 v1 v2 v3 v4 v5 v6 v7 v8 v9 v10 v11 v12) w := h
theorem lg_self (x : Int64) : lg_cmp x x = 0 := by unfold lg_cmp; simp
theorem WF_as {A : AS} {r s x : Nat} (hW : WF A) (hr : (r = 6 ∧ x ≤ 9) ∨ (r = 9 ∧ x ≤ 3) ∨ (r = 10 ∧ x ≤ 5) ∨ (r = 11 ∧ x ≤ 9) ∨ (r = 12 ∧ x ≤ 127) ∨ (r = 7 ∧ x ≤ A 7 s)) : WF (aset A r s x) := by
  obtain ⟨⟨w0, w6, w7, ws, w16⟩, w8, wb⟩ := hW
  have a0 : ∀ j, aset A r s x 0 j = A 0 j := fun j => aset_ne (.inl (by omega))
  have ar : ∀ k j, k ≠ r → aset A r s x k j = A k j := fun k j hk => aset_ne (.inl hk)
  have ao : ∀ k j, j ≠ s → aset A r s x k j = A k j := fun k j hk => aset_ne (.inr hk)
  have e7 : ∀ i, aset A r s x 7 i ≤ A 7 i := fun i => by
    by_cases h7 : 7 = r
    · by_cases hi : i = s
      · subst hi; rw [← h7, aset_s]; omega
      · rw [ao 7 i hi]; exact Nat.le_refl _
    · rw [ar 7 i h7]; exact Nat.le_refl _
  have bd : ∀ k j m, A k j ≤ m → (k = r → j = s → x ≤ m) → aset A r s x k j ≤ m := fun k j m h1 h2 => by
    by_cases hk : k = r
    · by_cases hj : j = s
      · subst hk; subst hj; rw [aset_s]; exact h2 rfl rfl
      · rw [ao k j hj]; exact h1
    · rw [ar k j hk]; exact h1
  refine ⟨⟨?_, fun i hi => bd 6 i 9 (w6 i hi) (fun h _ => by omega), fun i hi => Nat.le_trans (e7 i) (w7 i hi), fun i hi => ?_, fun i hi => ?_⟩, fun p hp k hk => ?_, fun b hb => ?_⟩
  · rw [a0, a0, a0, a0, a0, a0]; exact w0
  · rw [a0] at hi
    have := ws i hi
    exact ⟨bd 9 i 3 this.1 (fun h _ => by omega), bd 10 i 5 this.2.1 (fun h _ => by omega), bd 11 i 9 this.2.2.1 (fun h _ => by omega), bd 12 i 127 this.2.2.2.1 (fun h _ => by omega), bd 13 i 999 this.2.2.2.2 (fun h _ => by omega)⟩
  · rw [a0] at hi
    exact bd 16 i 31 (w16 i hi) (fun h _ => by omega)
  · have := e7 p
    rw [a0, ar 8 _ (by omega)]
    exact w8 p hp k (by omega)
  · rw [a0] at hb
    rw [a0, ar 14 _ (by omega), ar 15 _ (by omega)]
    exact wb b hb
theorem CntS_as {A : AS} {r s x : Nat} (h0 : r ≠ 0) (h14 : r < 14) : CntS A (aset A r s x) := ⟨fun j _ => aset_ne (.inl (fun e => h0 e.symm)), aset_r (by omega), aset_r (by omega), aset_r (by omega)⟩
/-- a street's change, both sides -/
theorem scA_ok {A : AS} (hW : WF A) (hd : A 0 4 < 1000) (x1 : Int32) : WF (scA A x1).2 ∧ (scA A x1).2 0 4 < 1000 ∧ CntS A (scA A x1).2 := by
  unfold scA
  cases ix x1 (A 0 0) with
  | none => exact ⟨hW, hd, CntS.rf⟩
  | some p =>
    dsimp only
    cases tpA A p with
    | none => exact ⟨hW, hd, CntS.rf⟩
    | some s => exact ⟨WF_as hW (by omega), by dsimp only; rw [aset_ne (.inl (by decide))]; exact hd, CntS_as (by decide) (by decide)⟩
theorem woA_ok {A : AS} (hW : WF A) (hd : A 0 4 < 1000) (x1 x2 : Int32) : WF (woA A x1 x2).2 ∧ (woA A x1 x2).2 0 4 < 1000 ∧ CntS A (woA A x1 x2).2 := by
  unfold woA
  cases ix x1 (A 0 0) with
  | none => exact ⟨hW, hd, CntS.rf⟩
  | some p =>
    dsimp only
    cases hv : ix x2 10 with
    | none => exact ⟨hW, hd, CntS.rf⟩
    | some v =>
      have := (ix_some hv).2
      exact ⟨WF_as hW (by omega), by dsimp only; rw [aset_ne (.inl (by decide))]; exact hd, CntS_as (by decide) (by decide)⟩
theorem alK_some {x : Int32} {rm : Nat × Nat} (h : alK x = some rm) : rm = (9, 4) ∨ rm = (10, 6) ∨ rm = (11, 10) ∨ rm = (12, 128) := by
  unfold alK at h
  by_cases c0 : x = (0 : Int32)
  · rw [if_pos c0] at h; exact .inl (Option.some.inj h).symm
  · rw [if_neg c0] at h
    by_cases c1 : x = (1 : Int32)
    · rw [if_pos c1] at h; exact .inr (.inl (Option.some.inj h).symm)
    · rw [if_neg c1] at h
      by_cases c2 : x = (2 : Int32)
      · rw [if_pos c2] at h; exact .inr (.inr (.inl (Option.some.inj h).symm))
      · rw [if_neg c2] at h
        by_cases c3 : x = (3 : Int32)
        · rw [if_pos c3] at h; exact .inr (.inr (.inr (Option.some.inj h).symm))
        · rw [if_neg c3] at h; cases h
theorem alA_ok {A : AS} (hW : WF A) (hd : A 0 4 < 1000) (x1 x2 x3 : Int32) : WF (alA A x1 x2 x3).2 ∧ (alA A x1 x2 x3).2 0 4 < 1000 ∧ CntS A (alA A x1 x2 x3).2 := by
  unfold alA
  cases ix x1 (A 0 1) with
  | none => exact ⟨hW, hd, CntS.rf⟩
  | some s =>
    dsimp only
    cases hk : alK x2 with
    | none => exact ⟨hW, hd, CntS.rf⟩
    | some rm =>
      dsimp only
      cases hv : ix x3 rm.2 with
      | none => exact ⟨hW, hd, CntS.rf⟩
      | some v =>
        have h1 := (ix_some hv).2
        rcases alK_some hk with rfl | rfl | rfl | rfl <;> exact ⟨WF_as hW (by dsimp only at h1 ⊢; omega), by dsimp only; rw [aset_ne (.inl (by decide))]; exact hd, CntS_as (by decide) (by decide)⟩
theorem goA_ok {A : AS} (hW : WF A) (hd : A 0 4 < 1000) (x : Int32) : WF (goA A x).2 ∧ (goA A x).2 0 4 < 1000 ∧ CntS A (goA A x).2 := by
  unfold goA
  cases hx : ix x 61 with
  | none => exact ⟨hW, hd, CntS.rf⟩
  | some n =>
    dsimp only
    by_cases c : A 0 4 + n < 1000
    · rw [if_pos c]
      exact ⟨WF_dyN hW n (by omega), by dsimp only; rw [dyN_4]; exact c, CntS.of (SameS.dyN n)⟩
    · rw [if_neg c]; exact ⟨hW, hd, CntS.rf⟩
theorem siA_ok {A : AS} (hW : WF A) (hd : A 0 4 < 1000) (x1 x2 : Int32) : WF (sitA A x1 x2).2 ∧ (sitA A x1 x2).2 0 4 < 1000 ∧ CntS A (sitA A x1 x2).2 := ⟨WF_sit hW x1 x2, by rw [(sitA_same x1 x2).2]; exact hd, CntS.of (sitA_same x1 x2).1⟩
/-- the street changed by a face's operation -/
theorem R_str {v0 v1' v3 v4 v5 v7 v8 v9 v10 v11 v12 w w' : SV} {A B : AS} (h10 : v8 10 0 = nI 0) (hO : Oth v0 v3 v4 v5 v7 v9 v10 v11 v12 w A) (hR : RepC v1' B) (hB : WF B ∧ B 0 4 < 1000 ∧ CntS A B) (hM : RM w' 0 B) (hF : FrP w w') : R13 v0 v1' v3 v4 v5 v7 v8 v9 v10 v11 v12 w' := ⟨h10, B, hR, hB.1, hB.2.1, hM, Oth_f hO (FrO.fp hF) hB.2.2 rfl rfl⟩
/-- nothing but workplaces changed -/
theorem R_kp {v0 v0' v1 v3 v4 v5 v7 v8' v9 v10 v11 v12 w w' : SV} {A : AS} (h10 : v8' 10 0 = nI 0) (hO : Oth v0 v3 v4 v5 v7 v9 v10 v11 v12 w A) (hR : RepC v1 A) (hW : WF A) (hd : A 0 4 < 1000) (hM : RM w 0 A) (hK : Kp w w') (h04 : v0' 4 = v0 4) (h00 : v0' 0 10 = v0 0 10) : R13 v0' v1 v3 v4 v5 v7 v8' v9 v10 v11 v12 w' := ⟨h10, A, hR, hW, hd, RM_k hW.1 hM hK, Oth_f hO (FrO.kp hK) CntS.rf h04 h00⟩
