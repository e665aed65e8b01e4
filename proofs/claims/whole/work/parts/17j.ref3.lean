/-! ===== PURE: the reference's side of the simple calls ===== -/
def Kp (w w' : SV) : Prop := (∀ k, k ≠ 0 → k ≠ 29 → k ≠ 30 → k ≠ 33 → k ≠ 50 → w' k = w k) ∧ (∀ j, j ≠ 34 → w' 0 j = w 0 j) ∧ (∀ i, i < 189 → w' 50 i = w 50 i)
theorem Kp.rf {w : SV} : Kp w w := ⟨fun _ _ _ _ _ _ => rfl, fun _ _ => rfl, fun _ _ => rfl⟩
theorem Kp.tr {a b c : SV} (h : Kp a b) (h' : Kp b c) : Kp a c := ⟨fun k k0 k1 k2 k3 k4 => (h'.1 k k0 k1 k2 k3 k4).trans (h.1 k k0 k1 k2 k3 k4), fun j hj => (h'.2.1 j hj).trans (h.2.1 j hj), fun i hi => (h'.2.2 i hi).trans (h.2.2 i hi)⟩
def FrP (w w' : SV) : Prop := (∀ k, k ≠ 50 → w' k = w k) ∧ ∀ i, 63 ≤ i → w' 50 i = w 50 i
theorem FrP.rf {w : SV} : FrP w w := ⟨fun _ _ => rfl, fun _ _ => rfl⟩
theorem FrP.of {w w' : SV} (h : FrD w w' 0) : FrP w w' := ⟨h.1, fun i hi => h.2 i (by omega)⟩
theorem FrP.up {w : SV} {i : Nat} {x : Int32} (h : i < 63) : FrP w (up2 w 50 i x) := ⟨fun k hk => up2_n hk, fun j hj => up2_si (by omega)⟩
theorem Kp.fr {w w' : SV} {pg : Nat} (h : FrD w w' pg) (hp : 189 ≤ pg) : Kp w w' := ⟨fun k _ _ _ _ k5 => h.1 k k5, fun j _ => by rw [h.1 0 (by decide)], fun i hi => h.2 i (by omega)⟩
theorem Kp.up {w : SV} {r i : Nat} {x : Int32} (h : r = 29 ∨ r = 30 ∨ r = 33) : Kp w (up2 w r i x) := ⟨fun k k0 k1 k2 k3 k4 => up2_n (by omega), fun j hj => by rw [up2_n (by omega)], fun i hi => by rw [up2_n (by omega)]⟩
theorem RM_x {w w' : SV} {pg : Nat} {A : AS} (hM : RM w pg A) (h0 : ∀ j, j < 10 → w' 0 j = w 0 j) (h3 : w' 3 = w 3) (h5 : w' 5 = w 5) (h50 : w' 50 = w 50) : RM w' pg A := by
  unfold RM RN RS RP at hM ⊢
  rw [h0 1 (by omega), h0 2 (by omega), h0 4 (by omega), h0 6 (by omega), h3, h5, h50]
  exact hM
theorem RM_k {w w' : SV} {A : AS} (hW : WFb A) (hM : RM w 0 A) (h : Kp w w') : RM w' 0 A := by
  have hn := hW.n
  refine ⟨?_, RS_f ⟨by omega, by omega⟩ hM.2.1 (fun i hi => h.2.2 _ (by omega)), RP_f hW hM.2.2 (fun i hi hi2 => h.2.2 _ (by omega))⟩
  obtain ⟨a1, a2, a3, a4, a5, a6⟩ := hM.1
  unfold RN
  rw [h.2.1 1 (by decide), h.2.1 2 (by decide), h.2.1 4 (by decide), h.2.1 6 (by decide), h.1 3 (by decide) (by decide) (by decide) (by decide) (by decide), h.1 5 (by decide) (by decide) (by decide) (by decide) (by decide)]
  exact ⟨a1, a2, a3, a4, a5, a6⟩
theorem RM.he0 {w : SV} {A : AS} (h : RM w 0 A) {p : Nat} (hp : p < A 0 0) : w 50 (6 + p) = nI (A 7 p) := h.he hp
theorem RM.la0 {w : SV} {A : AS} (h : RM w 0 A) {p k : Nat} (hp : p < A 0 0) (hk : k < A 7 p) : w 50 (12 + 4 * p + k) = nI (A 8 (4 * p + k)) := h.la hp hk
theorem RM.fr0 {w : SV} {A : AS} (h : RM w 0 A) {s : Nat} (hs : s < A 0 1) : w 50 (51 + s) = nI (A 12 s) := h.fr hs
theorem RM.ea0 {w : SV} {A : AS} (h : RM w 0 A) {s : Nat} (hs : s < A 0 1) : w 50 (56 + s) = nI (A 13 s) := h.ea hs
theorem RM.da0 {w : SV} {A : AS} (h : RM w 0 A) : w 50 61 = nI (A 0 4) := h.da
theorem RM.ls0 {w : SV} {A : AS} (h : RM w 0 A) : w 50 62 = nI (A 0 5) := h.ls
/-- the page where all is tried -/
theorem tried_s {w : SV} {A : AS} (hM : RM w 0 A) (hW : WFb A) {b : Nat} (hb : b ≤ 252) (hb2 : 189 ≤ b) : ∃ w', m_X6_copies w (nI 0) (nI b) = some w' ∧ RM w' b A ∧ RM w' 0 A ∧ Kp w w' ∧ (∀ k, k ≠ 50 → w' k = w k) := by
  have hn := hW.n
  obtain ⟨w', h1, h2, h3⟩ := copies_s w (a := 0) (b := b) (by omega) hb (by omega)
  have hK : Kp w w' := ⟨fun k _ _ _ _ k5 => h2 k k5, fun j _ => by rw [h2 0 (by decide)], fun i hi => by rw [h3, if_neg (by omega)]⟩
  have h0 := RM_k hW hM hK
  refine ⟨w', h1, ⟨h0.1, h0.2.1, RP_f hW hM.2.2 (fun i hi hi2 => ?_)⟩, h0, hK, h2⟩
  rw [h3, if_pos (by omega)]
  congr 1
  omega
theorem c61 : Int32.toNatClampNeg (61 : Int32) = 61 := rfl
theorem c62 : Int32.toNatClampNeg (62 : Int32) = 62 := rfl
theorem rule6_s {w : SV} {A : AS} (hM : RM w 0 A) (hW : WF A) (x : Int32) : m_X6_rule w x = some (ruA A x) := by
  have hn := hW.1.n
  unfold m_X6_rule ruA
  rw [show ((0 : Int32), (0 : Int32)) = (fun k => (nI (orN (fun p => decide (tpA A p = none)) k), nI k)) 0 from rfl]
  rw [lp_run (step := m_X6_rule_L4 w) (fun k => (nI (orN (fun p => decide (tpA A p = none)) k), nI k)) (A 0 0) (r := (nI (shA A none), nI (A 0 0)))]
  · rw [some_bind]
    unfold m_X6_rule_K4
    dsimp +instances only
    rw [hM.n0, hM.n1, hM.n2, hM.n3, c61, c62, hM.da0, hM.ls0]
    have e : (if nI (A 0 5) = (0 : Int32) then some (-4 : Int32) else some (nI (A 0 5) - (1 : Int32))) = some (oI (ltA A)) := by
      unfold ltA
      rw [ifp (show (nI (A 0 5) = (0 : Int32)) = (A 0 5 = 0) from cast_eq (b := 0) (by omega) (by omega))]
      by_cases h : A 0 5 = 0
      · rw [if_pos h, if_pos h]; rfl
      · rw [if_neg h, if_neg h, li_1, pk_sub (by omega)]; rfl
    rw [e]
    simp only [some_if]
  · intro k hk
    unfold m_X6_rule_L4
    dsimp +instances only
    rw [hM.n0, if_neg (nI_ge hk (by omega)), li_0, topOn_s hM hW.1 (by omega) hk, some_bind, ifp (oI_m4 (fun s hs => by have := tpA_5 hW (by omega) hs; omega)), ← li_0, or0]
    show _ = some (Sum.inl (nI (if decide (tpA A k = none) = true then _ ||| 2 ^ k else _), nI (k + 1)))
    by_cases h : tpA A k = none
    · rw [if_pos h, if_pos (by simp [h]), b_two (by omega), nx_or, nI_1]
    · rw [if_neg h, if_neg (by simp [h]), nI_1]
  · unfold m_X6_rule_L4
    dsimp +instances only
    rw [hM.n0, if_pos (nI_le (Nat.le_refl _) (by omega))]
    rfl
theorem part6_s {w : SV} {A : AS} (hM : RM w 0 A) (hW : WF A) (x1 x2 : Int32) : m_X6_part w x1 x2 = some (ptA A x1 x2) := by
  have hn := hW.1.n
  unfold m_X6_part ptA
  rw [isPart_s hM hW.1, some_bind]
  cases h1 : ix x1 (A 0 0) with
  | none => rfl
  | some p =>
    obtain ⟨rfl, hp⟩ := ix_some h1
    simp only [Option.isSome_some, bI, if_true, ne10, if_false]
    rw [li_6, nI_add, inB_nI (by omega) (by omega), ck_true, nI_clamp (by omega), hM.he0 hp, worthOf_s hM hW.1 hp, li_0, topOn_s hM hW.1 (by omega) hp]
    simp only [some_bind, some_if]
theorem layer6_s {w : SV} {A : AS} (hM : RM w 0 A) (hW : WF A) (x1 x2 : Int32) : m_X6_layer w x1 x2 = some (lyA A x1 x2) := by
  have hn := hW.1.n
  unfold m_X6_layer lyA
  rw [isPart_s hM hW.1, some_bind]
  cases h1 : ix x1 (A 0 0) with
  | none => rfl
  | some p =>
    obtain ⟨rfl, hp⟩ := ix_some h1
    have b7 := hW.1.b7 p (by omega)
    simp only [Option.isSome_some, bI, if_true, ne10, if_false]
    rw [li_6, nI_add, inB_nI (by omega) (by omega), ck_true, nI_clamp (by omega), hM.he0 hp, in_s (pred_64 (by omega)) (by omega), some_bind]
    cases h2 : ix x2 (A 7 p) with
    | none => rfl
    | some k =>
      obtain ⟨rfl, hk⟩ := ix_some h2
      simp only [Option.isSome_some, bI, if_true, ne10, if_false]
      rw [li_4, pk_mul, li_12, nI_add, nI_add, inB_nI (by omega) (by omega), ck_true, nI_clamp (by omega), hM.la0 hp hk]
theorem sel_s {w : SV} {A : AS} (hM : RM w 0 A) {j s : Nat} (hj : j < 5) (hs : s < A 0 1) : w 50 (36 + 5 * j + s) = nI (A (9 + j) s) := by
  have : j = 0 ∨ j = 1 ∨ j = 2 ∨ j = 3 ∨ j = 4 := by omega
  rcases this with rfl | rfl | rfl | rfl | rfl
  · exact hM.ki hs
  · exact hM.mi hs
  · exact hM.ak hs
  · exact hM.fr0 hs
  · exact hM.ea0 hs
theorem sitter6_s {w : SV} {A : AS} (hM : RM w 0 A) (hW : WF A) (x1 x2 : Int32) : m_X6_sitter w x1 x2 = some (siA A x1 x2) := by
  have hn := hW.1.n
  unfold m_X6_sitter siA
  rw [isSitter_s hM hW.1, some_bind]
  cases h1 : ix x1 (A 0 1) with
  | none => rfl
  | some s =>
    obtain ⟨rfl, hs⟩ := ix_some h1
    simp only [Option.isSome_some, bI, if_true, ne10, if_false]
    rw [in_s (k := 6) (by decide) (by omega), some_bind]
    cases h2 : ix x2 6 with
    | none =>
      refine Eq.trans (b := some (-1 : Int32)) rfl ?_
      rw [if_neg (show ¬ x2 = (0 : Int32) from ix_c (by omega) h2 (p := 0) (by omega)), if_neg (show ¬ x2 = (1 : Int32) from ix_c (by omega) h2 (p := 1) (by omega)), if_neg (show ¬ x2 = (2 : Int32) from ix_c (by omega) h2 (p := 2) (by omega)), if_neg (show ¬ x2 = (3 : Int32) from ix_c (by omega) h2 (p := 3) (by omega)), if_neg (show ¬ x2 = (4 : Int32) from ix_c (by omega) h2 (p := 4) (by omega)), if_neg (show ¬ x2 = (5 : Int32) from ix_c (by omega) h2 (p := 5) (by omega))]
    | some j =>
      obtain ⟨rfl, hj⟩ := ix_some h2
      simp only [Option.isSome_some, bI, if_true, ne10, if_false]
      by_cases h5 : j = 5
      · subst h5
        rw [if_pos (show nI 5 = (5 : Int32) from rfl), li_0, show nI s = oI (some s) from rfl, shownOn_s hM hW (by omega) (fun t ht => by cases ht; omega), some_bind]
        rw [if_neg (by decide), if_neg (by decide), if_neg (by decide), if_neg (by decide), if_neg (by decide), if_pos (by decide)]
      · rw [li_5, ifp (cast_eq (by omega) (by omega)), if_neg h5, li_36, pk_mul, nI_add, nI_add, inB_nI (by omega) (by omega), ck_true, nI_clamp (by omega), sel_s hM (by omega) hs]
        have : j = 0 ∨ j = 1 ∨ j = 2 ∨ j = 3 ∨ j = 4 := by omega
        rcases this with rfl | rfl | rfl | rfl | rfl
        · rw [if_pos (by decide)]
        · rw [if_neg (by decide), if_pos (by decide)]
        · rw [if_neg (by decide), if_neg (by decide), if_pos (by decide)]
        · rw [if_neg (by decide), if_neg (by decide), if_neg (by decide), if_pos (by decide)]
        · rw [if_neg (by decide), if_neg (by decide), if_neg (by decide), if_neg (by decide), if_pos (by decide)]
theorem bond6_s {w : SV} {A : AS} (hM : RM w 0 A) (hW : WF A) (x1 x2 : Int32) : m_X6_bond w x1 x2 = some (boA A x1 x2) := by
  have hn := hW.1.n
  unfold m_X6_bond boA
  rw [hM.n2, in_s (pred_64 (by omega)) (by omega), some_bind]
  cases h1 : ix x1 (A 0 2) with
  | none => rfl
  | some b =>
    obtain ⟨rfl, hb⟩ := ix_some h1
    simp only [Option.isSome_some, bI, if_true, ne10, if_false]
    rw [in_s (k := 3) (by decide) (by omega), some_bind]
    cases h2 : ix x2 3 with
    | none =>
      refine Eq.trans (b := some (-1 : Int32)) rfl ?_
      rw [if_neg (show ¬ x2 = (0 : Int32) from ix_c (by omega) h2 (p := 0) (by omega)), if_neg (show ¬ x2 = (1 : Int32) from ix_c (by omega) h2 (p := 1) (by omega)), if_neg (show ¬ x2 = (2 : Int32) from ix_c (by omega) h2 (p := 2) (by omega))]
    | some j =>
      obtain ⟨rfl, hj⟩ := ix_some h2
      simp only [Option.isSome_some, bI, if_true, ne10, if_false]
      rw [li_0, isLikeOn_s hM hW (by omega) hb, some_bind]
      have : j = 0 ∨ j = 1 ∨ j = 2 := by omega
      rcases this with rfl | rfl | rfl
      · rw [if_neg (by decide), if_pos (by decide), li_2, pk_mul, nI_add, inB_nI (by omega) (by omega), ck_true, nI_clamp (by omega), Nat.add_zero, hM.bo hb]
      · rw [if_neg (by decide), if_neg (by decide), if_pos (by decide), li_2, pk_mul, nI_add, inB_nI (by omega) (by omega), ck_true, nI_clamp (by omega), hM.bo' hb]
      · rw [if_pos (show (2 : Int32) ≤ nI 2 from by decide), if_neg (show ¬ nI 2 = nI 0 from by decide), if_neg (show ¬ nI 2 = (1 : Int32) from by decide), if_pos (show nI 2 = (2 : Int32) from rfl)]
        cases slA A b <;> rfl
theorem forger6_s {w : SV} {A : AS} (hM : RM w 0 A) (hW : WF A) (x1 : Int32) : m_X6_forger w x1 = some (foA A x1) := by
  have hn := hW.1.n
  unfold m_X6_forger foA
  rw [hM.n3, in_s (pred_64 (by omega)) (by omega), some_bind]
  cases h1 : ix x1 (A 0 3) with
  | none => rfl
  | some f =>
    obtain ⟨rfl, hf⟩ := ix_some h1
    simp only [Option.isSome_some, bI, if_true, ne10, if_false]
    rw [inB_nI (by omega) (by omega), nI_clamp (by omega), hM.fo hf, ck_true]
theorem painted_s {w : SV} {A : AS} (hM : RM w 0 A) (hW : WFb A) (x1 x2 : Int32) : ∃ w', m_X6_painted w x1 x2 = some ((sitA A x1 x2).1, w') ∧ RM w' 0 (sitA A x1 x2).2 ∧ FrD w w' 0 := by
  have hn := hW.n
  unfold m_X6_painted sitA
  rw [isPart_s hM hW, some_bind, isSitter_s hM hW, some_bind]
  cases h1 : ix x1 (A 0 0) with
  | none => exact ⟨w, rfl, hM, FrD.rf⟩
  | some p =>
    obtain ⟨rfl, hp⟩ := ix_some h1
    have b7 := hW.b7 p (by omega)
    cases h2 : ix x2 (A 0 1) with
    | none => exact ⟨w, rfl, hM, FrD.rf⟩
    | some s =>
      obtain ⟨rfl, hs⟩ := ix_some h2
      simp only [Option.isSome_some, bI, if_true, ne10, if_false]
      rw [li_6, nI_add, inB_nI (by omega) (by omega), ck_true, nI_clamp (by omega), hM.he0 hp, li_4, ifp (cast_eq (by omega) (by omega))]
      by_cases h4 : A 7 p = 4
      · rw [if_pos h4, if_pos h4]; exact ⟨w, rfl, hM, FrD.rf⟩
      · rw [if_neg h4, if_neg h4]
        obtain ⟨w', h3, h5, h6⟩ := paintsOn_s (s := s) hM hW (by omega) (.inl rfl) hp
        have hp' : p < covA A p s 0 0 := by rw [covA_r (by decide) (by decide)]; exact hp
        rw [li_0, h3, some_bind, ck_true, h5.he0 hp', covA_7, if_pos rfl, if_neg h4]
        exact ⟨w', rfl, h5, h6⟩
theorem paint6_s {w : SV} {A : AS} (hM : RM w 0 A) (hW : WF A) (x1 x2 : Int32) : ∃ w', m_X6_paint w x1 x2 = some ((sitA A x1 x2).1, w') ∧ RM w' 0 (sitA A x1 x2).2 ∧ FrP w w' := by
  obtain ⟨w', h1, h2, h3⟩ := painted_s hM hW.1 x1 x2
  unfold m_X6_paint
  rw [h1, some_bind]
  exact ⟨w', rfl, h2, FrP.of h3⟩
theorem up2_id {w : SV} {r i : Nat} {x : Int32} (h : w r i = x) : up2 w r i x = w := by
  funext k j
  by_cases hk : k = r
  · subst hk
    by_cases hj : j = i
    · subst hj; rw [up2_ss, h]
    · rw [up2_si hj]
  · rw [up2_n hk]
theorem RM_p7 {w : SV} {A : AS} (hM : RM w 0 A) (hW : WFb A) {p h : Nat} (hp : p < A 0 0) (hh : h ≤ A 7 p) : RM (up2 w 50 (6 + p) (nI h)) 0 (aset A 7 p h) := by
  have hn := hW.n
  have b7 := hW.b7 p (by omega)
  have a0 : aset A 7 p h 0 = A 0 := aset_r (by decide)
  have a8 : aset A 7 p h 8 = A 8 := aset_r (by decide)
  refine RM_mk (A := A) ⟨by omega, by omega⟩ hM (.inl rfl) (FrD.up (by omega)) ⟨fun j _ => by rw [a0], aset_r (by decide), aset_r (by decide), aset_r (by decide), aset_r (by decide), aset_r (by decide), aset_r (by decide), aset_r (by decide)⟩ ⟨fun q hq => ?_, fun q hq k hk => ?_, fun s hs => ?_, ?_, ?_⟩
  · rw [a0] at hq
    by_cases hqp : q = p
    · subst hqp
      rw [aset_s, Nat.zero_add, up2_ss]
    · rw [aset_i hqp, up2_si (by omega)]
      exact hM.he hq
  · rw [a0] at hq
    rw [a8, up2_si (by omega)]
    refine hM.la hq ?_
    by_cases hqp : q = p
    · subst hqp
      rw [aset_s] at hk
      omega
    · rw [aset_i hqp] at hk
      exact hk
  · rw [a0] at hs
    rw [aset_r (by decide), aset_r (by decide), up2_si (by omega), up2_si (by omega)]
    exact ⟨hM.fr hs, hM.ea hs⟩
  · rw [a0, up2_si (by omega)]; exact hM.da
  · rw [a0, up2_si (by omega)]; exact hM.ls
theorem scrape6_s {w : SV} {A : AS} (hM : RM w 0 A) (hW : WF A) (x1 : Int32) : ∃ w', m_X6_scrape w x1 = some ((scA A x1).1, w') ∧ RM w' 0 (scA A x1).2 ∧ FrP w w' := by
  have hn := hW.1.n
  unfold m_X6_scrape scA
  rw [isPart_s hM hW.1, some_bind]
  cases h1 : ix x1 (A 0 0) with
  | none => exact ⟨w, rfl, hM, FrP.rf⟩
  | some p =>
    obtain ⟨rfl, hp⟩ := ix_some h1
    have b7 := hW.1.b7 p (by omega)
    simp only [Option.isSome_some, bI, if_true, ne10, if_false]
    rw [li_6, nI_add, inB_nI (by omega) (by omega)]
    simp only [ck_true]
    rw [nI_clamp (by omega), hM.he0 hp, show m_X6_topOn w (0 : Int32) (nI p) = some (oI (tpA A p)) from topOn_s hM hW.1 (by omega) hp, some_bind, ifp (oI_m4 (fun s hs => by have := tpA_5 hW (by omega) hs; omega)), show nI (A 7 p) - (0 : Int32) = nI (A 7 p) from Int32.sub_zero _]
    cases h2 : tpA A p with
    | none =>
      rw [if_pos rfl, lett_eq, if_pos (show oI none = -4 from rfl), up2_id (hM.he0 hp)]
      exact ⟨w, rfl, hM, FrP.rf⟩
    | some s =>
      have hs5 := tpA_5 hW (by omega) h2
      have h7 : 0 < A 7 p := by
        unfold tpA at h2
        split at h2
        · cases h2
        · omega
      rw [if_neg (by simp), lett_eq, ifp (oI_m4 (fun t ht => by cases ht; omega)), if_neg (by simp), li_1, pk_sub (by omega)]
      exact ⟨_, rfl, RM_p7 hM hW.1 hp (by omega), FrP.up (by omega)⟩
theorem puts0_s (w : SV) (x2 x3 x4 : Int32) : m_X6_puts w (0 : Int32) x2 x3 x4 = some (-1, w) := by
  unfold m_X6_puts
  rw [if_pos rfl]
theorem puts1_s (w : SV) {i : Nat} (hi : i < 315) (x3 x4 : Int32) : m_X6_puts w (1 : Int32) (nI i) x3 x4 = some (w 50 i + x4, up2 w 50 i (x3 - x4)) := by
  unfold m_X6_puts
  rw [if_neg (by decide), inB_nI hi (by omega), ck_true, ck_true, nI_clamp (by omega), lett_eq]
/-- a cell of a sitter is altered -/
theorem RM_alt {w : SV} {A : AS} (hM : RM w 0 A) (hW : WFb A) {j s v : Nat} (hj : j < 4) (hs : s < A 0 1) : RM (up2 w 50 (36 + 5 * j + s) (nI v)) 0 (aset A (9 + j) s v) := by
  have hn := hW.n
  have a0 : aset A (9 + j) s v 0 = A 0 := aset_r (by omega)
  have a6 : aset A (9 + j) s v 6 = A 6 := aset_r (by omega)
  have a7 : aset A (9 + j) s v 7 = A 7 := aset_r (by omega)
  have a8 : aset A (9 + j) s v 8 = A 8 := aset_r (by omega)
  have a13 : aset A (9 + j) s v 13 = A 13 := aset_r (by omega)
  have a14 : aset A (9 + j) s v 14 = A 14 := aset_r (by omega)
  have a15 : aset A (9 + j) s v 15 = A 15 := aset_r (by omega)
  have a16 : aset A (9 + j) s v 16 = A 16 := aset_r (by omega)
  have key : ∀ i t, i < 4 → t < A 0 1 → up2 w 50 (36 + 5 * j + s) (nI v) 50 (36 + 5 * i + t) = nI (aset A (9 + j) s v (9 + i) t) := by
    intro i t hi ht
    by_cases hc : i = j ∧ t = s
    · obtain ⟨rfl, rfl⟩ := hc
      rw [up2_ss, aset_s]
    · rw [up2_si (by omega)]
      unfold aset
      rw [if_neg (by omega)]
      exact sel_s hM (by omega) ht
  refine ⟨?_, ⟨fun p hp => ?_, fun t ht => ?_⟩, ⟨fun p hp => ?_, fun p hp k hk => ?_, fun t ht => ?_, ?_, ?_⟩⟩
  · unfold RN
    rw [a0, a14, a15, a16, up2_n (by decide), up2_n (by decide), up2_n (by decide)]
    exact hM.1
  · rw [a0] at hp
    rw [a6, up2_si (by omega)]
    exact hM.2.1.1 p hp
  · rw [a0] at ht
    rw [Nat.zero_add, Nat.zero_add, Nat.zero_add]
    exact ⟨key 0 t (by omega) ht, key 1 t (by omega) ht, key 2 t (by omega) ht⟩
  · rw [a0] at hp
    rw [a7, up2_si (by omega)]
    exact hM.he hp
  · rw [a0] at hp
    rw [a7] at hk
    have b7 := hW.b7 p (by omega)
    rw [a8, up2_si (by omega)]
    exact hM.la hp hk
  · rw [a0] at ht
    rw [a13]
    refine ⟨?_, ?_⟩
    · have := key 3 t (by omega) ht
      rw [show 0 + 51 + t = 36 + 5 * 3 + t by omega]
      exact this
    · rw [up2_si (by omega)]
      exact hM.ea ht
  · rw [a0, up2_si (by omega)]; exact hM.da
  · rw [a0, up2_si (by omega)]; exact hM.ls
theorem alter6_s {w : SV} {A : AS} (hM : RM w 0 A) (hW : WF A) (x1 x2 x3 : Int32) : ∃ w', m_X6_alter w x1 x2 x3 = some ((alA A x1 x2 x3).1, w') ∧ RM w' 0 (alA A x1 x2 x3).2 ∧ FrP w w' := by
  have hn := hW.1.n
  have hJ : ∀ (z : Int32) (m : Nat), z.toInt64.toInt = (m : Int) - 1 → m < 2 ^ 31 → m_X6_alter_J29 w x1 x2 x3 z = match ix x1 (A 0 1) with | none => some (-1, w) | some s => match ix x2 4 with | none => some (-1, w) | some j => match ix x3 m with | none => some (-1, w) | some v => some (nI (A (9 + j) s), up2 w 50 (36 + 5 * j + s) (nI v)) := by
    intro z m hz hm
    unfold m_X6_alter_J29
    rw [isSitter_s hM hW.1, some_bind]
    cases h1 : ix x1 (A 0 1) with
    | none => simp only [Option.isSome_none, bI, if_false, Bool.false_eq_true, if_true]; rw [puts0_s, some_bind]
    | some s =>
      obtain ⟨rfl, hs⟩ := ix_some h1
      simp only [Option.isSome_some, bI, if_true, ne10, if_false]
      rw [in_s (k := 4) (by decide) (by omega), some_bind]
      cases h2 : ix x2 4 with
      | none => simp only [Option.isSome_none, bI, if_false, Bool.false_eq_true, if_true]; rw [puts0_s, some_bind]
      | some j =>
        obtain ⟨rfl, hj⟩ := ix_some h2
        simp only [Option.isSome_some, bI, if_true, ne10, if_false]
        rw [in_s hz hm, some_bind]
        cases h3 : ix x3 m with
        | none => simp only [Option.isSome_none, bI, if_false, Bool.false_eq_true, if_true]; rw [puts0_s, some_bind]
        | some v =>
          obtain ⟨rfl, hv⟩ := ix_some h3
          simp only [Option.isSome_some, bI, if_true, ne10, if_false]
          rw [li_36, li_5, pk_mul, nI_add, nI_add, puts1_s w (by omega), some_bind, Int32.sub_zero, sel_s hM (by omega) hs, ad0]
  have hfin : ∀ (m : Nat) (rm : Option (Nat × Nat)), (match ix x2 4 with | none => rm = none | some j => rm = some (9 + j, m)) → ∃ w', (match ix x1 (A 0 1) with | none => some (-1, w) | some s => match ix x2 4 with | none => some (-1, w) | some j => match ix x3 m with | none => some (-1, w) | some v => some (nI (A (9 + j) s), up2 w 50 (36 + 5 * j + s) (nI v))) = some ((match ix x1 (A 0 1) with | none => ((-1 : Int32), A) | some s => match rm with | none => (-1, A) | some rm => match ix x3 rm.2 with | none => (-1, A) | some v => (nI (A rm.1 s), aset A rm.1 s v)).1, w') ∧ RM w' 0 (match ix x1 (A 0 1) with | none => ((-1 : Int32), A) | some s => match rm with | none => (-1, A) | some rm => match ix x3 rm.2 with | none => (-1, A) | some v => (nI (A rm.1 s), aset A rm.1 s v)).2 ∧ FrP w w' := by
    intro m rm hrm
    cases h1 : ix x1 (A 0 1) with
    | none => exact ⟨w, rfl, hM, FrP.rf⟩
    | some s =>
      cases h2 : ix x2 4 with
      | none =>
        rw [h2] at hrm
        dsimp only at hrm
        subst hrm
        exact ⟨w, rfl, hM, FrP.rf⟩
      | some j =>
        rw [h2] at hrm
        dsimp only at hrm
        subst hrm
        dsimp only
        cases h3 : ix x3 m with
        | none => exact ⟨w, rfl, hM, FrP.rf⟩
        | some v => exact ⟨_, rfl, RM_alt hM hW.1 (ix_some h2).2 (ix_some h1).2, FrP.up (by have := (ix_some h2).2; have := (ix_some h1).2; omega)⟩
  unfold m_X6_alter alA alK
  rw [hJ 3 4 (by decide) (by omega), hJ 5 6 (by decide) (by omega), hJ 9 10 (by decide) (by omega), hJ 127 128 (by decide) (by omega)]
  by_cases c0 : x2 = (0 : Int32)
  · rw [if_pos c0, if_pos c0]
    exact hfin 4 _ (by rw [c0]; rfl)
  · rw [if_neg c0, if_neg c0]
    by_cases c1 : x2 = (1 : Int32)
    · rw [if_pos c1, if_pos c1]
      exact hfin 6 _ (by rw [c1]; rfl)
    · rw [if_neg c1, if_neg c1]
      by_cases c2 : x2 = (2 : Int32)
      · rw [if_pos c2, if_pos c2]
        exact hfin 10 _ (by rw [c2]; rfl)
      · rw [if_neg c2, if_neg c2]
        refine hfin 128 _ ?_
        by_cases c3 : x2 = (3 : Int32)
        · rw [if_pos c3, c3]; rfl
        · rw [if_neg c3]
          cases h : ix x2 4 with
          | none => rfl
          | some j =>
            obtain ⟨rfl, hj⟩ := ix_some h
            have : j = 0 ∨ j = 1 ∨ j = 2 ∨ j = 3 := by omega
            rcases this with rfl | rfl | rfl | rfl
            · exact absurd rfl c0
            · exact absurd rfl c1
            · exact absurd rfl c2
            · exact absurd rfl c3
theorem worth6_s {w : SV} {A : AS} (hM : RM w 0 A) (hW : WF A) (x1 x2 : Int32) : ∃ w', m_X6_worth w x1 x2 = some ((woA A x1 x2).1, w') ∧ RM w' 0 (woA A x1 x2).2 ∧ FrP w w' := by
  have hn := hW.1.n
  unfold m_X6_worth woA
  rw [isPart_s hM hW.1, some_bind]
  cases h1 : ix x1 (A 0 0) with
  | none => simp only [Option.isSome_none, bI, if_false, Bool.false_eq_true, if_true]; rw [puts0_s, some_bind]; exact ⟨w, rfl, hM, FrP.rf⟩
  | some p =>
    obtain ⟨rfl, hp⟩ := ix_some h1
    simp only [Option.isSome_some, bI, if_true, ne10, if_false]
    rw [in_s (k := 10) (by decide) (by omega), some_bind]
    cases h2 : ix x2 10 with
    | none => simp only [Option.isSome_none, bI, if_false, Bool.false_eq_true, if_true]; rw [puts0_s, some_bind]; exact ⟨w, rfl, hM, FrP.rf⟩
    | some v =>
      obtain ⟨rfl, hv⟩ := ix_some h2
      simp only [Option.isSome_some, bI, if_true, ne10, if_false]
      rw [puts1_s w (by omega), some_bind, hM.wo hp]
      refine ⟨_, rfl, ?_, FrP.up (by omega)⟩
      have a0 : aset A 6 p v 0 = A 0 := aset_r (by decide)
      have a7 : aset A 6 p v 7 = A 7 := aset_r (by decide)
      have a8 : aset A 6 p v 8 = A 8 := aset_r (by decide)
      show RM (up2 w 50 p (nI v - (1 : Int32))) 0 (aset A 6 p v)
      refine ⟨?_, ⟨fun q hq => ?_, fun t ht => ?_⟩, ⟨fun q hq => ?_, fun q hq k hk => ?_, fun t ht => ?_, ?_, ?_⟩⟩
      · unfold RN
        rw [a0, aset_r (by decide), aset_r (by decide), aset_r (by decide), up2_n (by decide), up2_n (by decide), up2_n (by decide)]
        exact hM.1
      · rw [a0] at hq
        rw [Nat.zero_add]
        by_cases hqp : q = p
        · subst hqp
          rw [up2_ss, aset_s, Int32.sub_add_cancel]
        · rw [up2_si hqp, aset_i hqp]
          exact hM.wo hq
      · rw [a0] at ht
        rw [aset_r (by decide), aset_r (by decide), aset_r (by decide), up2_si (by omega), up2_si (by omega), up2_si (by omega)]
        exact hM.2.1.2 t ht
      · rw [a0] at hq
        rw [a7, up2_si (by omega)]
        exact hM.he hq
      · rw [a0] at hq
        rw [a7] at hk
        rw [a8, up2_si (by omega)]
        exact hM.la hq hk
      · rw [a0] at ht
        rw [aset_r (by decide), aset_r (by decide), up2_si (by omega), up2_si (by omega)]
        exact ⟨hM.fr ht, hM.ea ht⟩
      · rw [a0, up2_si (by omega)]; exact hM.da
      · rw [a0, up2_si (by omega)]; exact hM.ls
theorem like6_s {w : SV} {A : AS} (hM : RM w 0 A) (hW : WF A) (x1 x2 : Int32) : m_X6_like w x1 x2 = some (lkA A x1 x2) := by
  have hn := hW.1.n
  unfold m_X6_like lkA
  rw [isSitter_s hM hW.1, some_bind]
  cases h1 : ix x1 (A 0 1) with
  | none => rfl
  | some s =>
    obtain ⟨rfl, hs⟩ := ix_some h1
    simp only [Option.isSome_some, bI, if_true, ne10, if_false]
    rw [isSitter_s hM hW.1, some_bind]
    cases h2 : ix x2 (A 0 1) with
    | none => rfl
    | some t =>
      obtain ⟨rfl, ht⟩ := ix_some h2
      simp only [Option.isSome_some, bI, if_true, ne10, if_false]
      rw [areLike6_s hM hW.1 hs ht, some_bind, ifp (bI_0 _), some_bIf]
      rfl
