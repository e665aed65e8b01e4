/-! ===== PURE: what the face answers (specs), the class's side of the simple calls ===== -/
def ruA (A : AS) (x : Int32) : Int32 := if x = (0 : Int32) then nI (A 0 0) else if x = (1 : Int32) then nI (A 0 1) else if x = (2 : Int32) then nI (A 0 2) else if x = (3 : Int32) then nI (A 0 3) else if x = (4 : Int32) then nI (A 0 4) else if x = (5 : Int32) then oI (ltA A) else if x = (6 : Int32) then nI (shA A none) else -1
def ptA (A : AS) (x1 x2 : Int32) : Int32 := match ix x1 (A 0 0) with
  | none => -1
  | some p => if x2 = (0 : Int32) then nI (A 6 p) else if x2 = (1 : Int32) then nI (A 7 p) else if x2 = (2 : Int32) then oI (tpA A p) else -1
def lyA (A : AS) (x1 x2 : Int32) : Int32 := match ix x1 (A 0 0) with
  | none => -1
  | some p => match ix x2 (A 7 p) with
    | none => -1
    | some k => nI (A 8 (4 * p + k))
def siA (A : AS) (x1 x2 : Int32) : Int32 := match ix x1 (A 0 1) with
  | none => -1
  | some s => if x2 = (0 : Int32) then nI (A 9 s) else if x2 = (1 : Int32) then nI (A 10 s) else if x2 = (2 : Int32) then nI (A 11 s) else if x2 = (3 : Int32) then nI (A 12 s) else if x2 = (4 : Int32) then nI (A 13 s) else if x2 = (5 : Int32) then nI (shA A (some s)) else -1
def boA (A : AS) (x1 x2 : Int32) : Int32 := match ix x1 (A 0 2) with
  | none => -1
  | some b => if x2 = (0 : Int32) then nI (A 14 b) else if x2 = (1 : Int32) then nI (A 15 b) else if x2 = (2 : Int32) then bI (slA A b) else -1
def foA (A : AS) (x1 : Int32) : Int32 := match ix x1 (A 0 3) with
  | none => -1
  | some f => nI (A 16 f)
def scA (A : AS) (x1 : Int32) : Int32 × AS := match ix x1 (A 0 0) with
  | none => (-1, A)
  | some p => match tpA A p with
    | none => (-2, A)
    | some s => (nI s, aset A 7 p (A 7 p - 1))
def alK (x : Int32) : Option (Nat × Nat) := if x = (0 : Int32) then some (9, 4) else if x = (1 : Int32) then some (10, 6) else if x = (2 : Int32) then some (11, 10) else if x = (3 : Int32) then some (12, 128) else none
def alA (A : AS) (x1 x2 x3 : Int32) : Int32 × AS := match ix x1 (A 0 1) with
  | none => (-1, A)
  | some s => match alK x2 with
    | none => (-1, A)
    | some rm => match ix x3 rm.2 with
      | none => (-1, A)
      | some v => (nI (A rm.1 s), aset A rm.1 s v)
def woA (A : AS) (x1 x2 : Int32) : Int32 × AS := match ix x1 (A 0 0) with
  | none => (-1, A)
  | some p => match ix x2 10 with
    | none => (-1, A)
    | some v => (nI (A 6 p), aset A 6 p v)
def lkA (A : AS) (x1 x2 : Int32) : Int32 := match ix x1 (A 0 1) with
  | none => -1
  | some s => match ix x2 (A 0 1) with
    | none => -1
    | some t => bI (likA A s t)
theorem ne10 : ((1 : Int32) = 0) = False := by simp
theorem rule_s (v0 : SV) {v : SV} {A : AS} (hR : RepC v A) (hW : WF A) (x : Int32) : m_X5_rule v0 v x = some (ruA A x) := by
  unfold m_X5_rule ruA
  rw [show (-4 : Int32) = oI none from rfl, showing_s hR hW (fun s h => by cases h), hR.n (j := 0) (by omega), hR.n (j := 1) (by omega), hR.n (j := 2) (by omega), hR.n (j := 3) (by omega), hR.n (j := 4) (by omega), hR.l]
  simp only [some_bind, some_if]
theorem part_s (v0 : SV) {v : SV} {A : AS} (hR : RepC v A) (hW : WF A) (x1 x2 : Int32) : m_X5_part v0 v x1 x2 = some (ptA A x1 x2) := by
  have hn := hW.1.n
  unfold m_X5_part ptA
  rw [hasPart_s hR hW.1, some_bind]
  cases h1 : ix x1 (A 0 0) with
  | none => rfl
  | some p =>
    obtain ⟨rfl, hp⟩ := ix_some h1
    simp only [Option.isSome_some, if_true, ne10, if_false]
    rw [inB_nI (by omega) (by omega), ck_true, ck_true, nI_clamp (by omega), hR.r6 p (by omega), hR.r7 p (by omega), top_s hR hW.1 hp]
    simp only [some_bind, some_if]
theorem layer_s (v0 : SV) {v : SV} {A : AS} (hR : RepC v A) (hW : WF A) (x1 x2 : Int32) : m_X5_layer v0 v x1 x2 = some (lyA A x1 x2) := by
  have hn := hW.1.n
  unfold m_X5_layer lyA
  rw [hasPart_s hR hW.1, some_bind]
  cases h1 : ix x1 (A 0 0) with
  | none => rfl
  | some p =>
    obtain ⟨rfl, hp⟩ := ix_some h1
    have b7 := hW.1.b7 p (by omega)
    simp only [Option.isSome_some, if_true, ne10, if_false]
    rw [inB_nI (by omega) (by omega), ck_true, nI_clamp (by omega), hR.r7 p (by omega), within_s rfl (by omega), some_bind]
    cases h2 : ix x2 (A 7 p) with
    | none => rfl
    | some k =>
      obtain ⟨rfl, hk⟩ := ix_some h2
      simp only [Option.isSome_some, bI, if_true, ne10, if_false]
      rw [show (4 : Int32) = nI 4 from rfl, pk_mul, nI_add, Nat.mul_comm p 4, inB_nI (by omega) (by omega), ck_true, nI_clamp (by omega), hR.r8 _ (by omega)]
theorem sitter_s (v0 : SV) {v : SV} {A : AS} (hR : RepC v A) (hW : WF A) (x1 x2 : Int32) : m_X5_sitter v0 v x1 x2 = some (siA A x1 x2) := by
  have hn := hW.1.n
  unfold m_X5_sitter siA
  rw [hasSitter_s hR hW.1, some_bind]
  cases h1 : ix x1 (A 0 1) with
  | none => rfl
  | some s =>
    obtain ⟨rfl, hs⟩ := ix_some h1
    simp only [Option.isSome_some, if_true, ne10, if_false]
    rw [inB_nI (by omega) (by omega), nI_clamp (by omega), hR.r9 s (by omega), hR.r10 s (by omega), hR.r11 s (by omega), hR.r12 s (by omega), hR.r13 s (by omega), show nI s = oI (some s) from rfl, showing_s hR hW (fun t h => by cases h; omega)]
    simp only [ck_true, some_bind, some_if]
theorem bond_s (v0 : SV) {v : SV} {A : AS} (hR : RepC v A) (hW : WF A) (x1 x2 : Int32) : m_X5_bond v0 v x1 x2 = some (boA A x1 x2) := by
  have hn := hW.1.n
  unfold m_X5_bond boA
  rw [hR.n (j := 2) (by omega), within_s rfl (by omega), some_bind]
  cases h1 : ix x1 (A 0 2) with
  | none => rfl
  | some b =>
    obtain ⟨rfl, hb⟩ := ix_some h1
    simp only [Option.isSome_some, bI, if_true, ne10, if_false]
    rw [inB_nI (by omega) (by omega), nI_clamp (by omega), hR.r14 b (by omega), hR.r15 b (by omega), showsLike_s hR hW hb]
    simp only [ck_true, some_bind, bI_0]
    rw [some_bIf]
    simp only [some_if]
    rfl
theorem forger_s (v0 : SV) {v : SV} {A : AS} (hR : RepC v A) (hW : WF A) (x1 : Int32) : m_X5_forger v0 v x1 = some (foA A x1) := by
  have hn := hW.1.n
  unfold m_X5_forger foA
  rw [hR.n (j := 3) (by omega), within_s rfl (by omega), some_bind]
  cases h1 : ix x1 (A 0 3) with
  | none => rfl
  | some f =>
    obtain ⟨rfl, hf⟩ := ix_some h1
    simp only [Option.isSome_some, bI, if_true, ne10, if_false]
    rw [inB_nI (by omega) (by omega), nI_clamp (by omega), hR.r16 f (by omega), ck_true]
theorem paint_s (v0 : SV) {v : SV} {A : AS} (hR : RepC v A) (hW : WF A) (x1 x2 : Int32) : ∃ v', m_X5_paint v0 v x1 x2 = some ((sitA A x1 x2).1, v') ∧ RepC v' (sitA A x1 x2).2 := by
  obtain ⟨v', h1, h2⟩ := sit_s hR hW.1 x1 x2
  unfold m_X5_paint
  rw [h1, some_bind]
  exact ⟨v', rfl, h2⟩
theorem scrape_s (v0 : SV) {v : SV} {A : AS} (hR : RepC v A) (hW : WF A) (x1 : Int32) : ∃ v', m_X5_scrape v0 v x1 = some ((scA A x1).1, v') ∧ RepC v' (scA A x1).2 := by
  have hn := hW.1.n
  unfold m_X5_scrape scA
  rw [hasPart_s hR hW.1, some_bind]
  cases h1 : ix x1 (A 0 0) with
  | none => exact ⟨v, rfl, hR⟩
  | some p =>
    obtain ⟨rfl, hp⟩ := ix_some h1
    have b7 := hW.1.b7 p (by omega)
    simp only [Option.isSome_some, if_true, ne10, if_false]
    rw [top_s hR hW.1 hp, some_bind, ifp (oI_m4 (fun s hs => by have := tpA_5 hW (by omega) hs; omega))]
    cases h2 : tpA A p with
    | none => exact ⟨v, rfl, hR⟩
    | some s =>
      have h7 : 0 < A 7 p := by
        unfold tpA at h2
        split at h2
        · cases h2
        · omega
      rw [if_neg (by simp), inB_nI (by omega) (by omega), ck_true, ck_true, nI_clamp (by omega), hR.r7 p (by omega), lett_eq, show (1 : Int32) = nI 1 from rfl, pk_sub (by omega)]
      exact ⟨_, rfl, hR.set (by decide)⟩
theorem exch_s {n : Nat} {f : Nat → Int32} {i m a : Nat} (hi : i < n) (hn : n < 2 ^ 31) (hm : m < 2 ^ 31) {M : Int32} (hM : M = nI m - 1) (hf : f i = nI a) (x : Int32) : m_X5_exchange n f (nI i) x M = some (match ix x m with | none => (-1, f) | some v => (nI a, upd f i (nI v))) := by
  unfold m_X5_exchange
  rw [within_s hM hm, some_bind]
  cases h : ix x m with
  | none => rfl
  | some w =>
    obtain ⟨rfl, hv⟩ := ix_some h
    have e : ix (nI i) n = some i := ix_nI hi hn
    simp only [Option.isSome_some, bI, if_true, ne10, if_false]
    rw [show Int32.ofNat n = nI n from rfl, within_s (k := n) rfl hn, some_bind, e]
    simp only [Option.isSome_some, bI, if_true, ne10, if_false]
    rw [inB_nI hi hn, ck_true, ck_true, nI_clamp (by omega), lett_eq, hf]
theorem upr_up2 {v : SV} {k i : Nat} {x : Int32} : upr v k (upd (v k) i x) = up2 v k i x := by
  funext j
  by_cases h : j = k
  · subst h; rw [upr_s, up2_s]
  · rw [upr_n h, up2_n h]
theorem upr_id {v : SV} {k : Nat} : upr v k (v k) = v := by
  funext j
  by_cases h : j = k
  · subst h; rw [upr_s]
  · rw [upr_n h]
theorem alter_s (v0 : SV) {v : SV} {A : AS} (hR : RepC v A) (hW : WF A) (x1 x2 x3 : Int32) : ∃ v', m_X5_alter v0 v x1 x2 x3 = some ((alA A x1 x2 x3).1, v') ∧ RepC v' (alA A x1 x2 x3).2 := by
  have hn := hW.1.n
  unfold m_X5_alter alA
  rw [hasSitter_s hR hW.1, some_bind]
  cases h1 : ix x1 (A 0 1) with
  | none => exact ⟨v, rfl, hR⟩
  | some s =>
    obtain ⟨rfl, hs⟩ := ix_some h1
    simp only [Option.isSome_some, if_true, ne10, if_false]
    rw [exch_s (m := 4) (by omega) (by omega) (by omega) (by decide) (hR.r9 s (by omega)), exch_s (m := 6) (by omega) (by omega) (by omega) (by decide) (hR.r10 s (by omega)), exch_s (m := 10) (by omega) (by omega) (by omega) (by decide) (hR.r11 s (by omega)), exch_s (m := 128) (by omega) (by omega) (by omega) (by decide) (hR.r12 s (by omega))]
    unfold alK
    by_cases c0 : x2 = (0 : Int32)
    · simp only [if_pos c0, some_bind, lett_eq]
      cases ix x3 4 with
      | none => exact ⟨_, rfl, by rw [upr_id]; exact hR⟩
      | some w => exact ⟨_, rfl, by rw [upr_up2]; exact hR.set (by decide)⟩
    · simp only [if_neg c0]
      by_cases c1 : x2 = (1 : Int32)
      · simp only [if_pos c1, some_bind, lett_eq]
        cases ix x3 6 with
        | none => exact ⟨_, rfl, by rw [upr_id]; exact hR⟩
        | some w => exact ⟨_, rfl, by rw [upr_up2]; exact hR.set (by decide)⟩
      · simp only [if_neg c1]
        by_cases c2 : x2 = (2 : Int32)
        · simp only [if_pos c2, some_bind, lett_eq]
          cases ix x3 10 with
          | none => exact ⟨_, rfl, by rw [upr_id]; exact hR⟩
          | some w => exact ⟨_, rfl, by rw [upr_up2]; exact hR.set (by decide)⟩
        · simp only [if_neg c2]
          by_cases c3 : x2 = (3 : Int32)
          · simp only [if_pos c3, some_bind, lett_eq]
            cases ix x3 128 with
            | none => exact ⟨_, rfl, by rw [upr_id]; exact hR⟩
            | some w => exact ⟨_, rfl, by rw [upr_up2]; exact hR.set (by decide)⟩
          · simp only [if_neg c3]
            exact ⟨v, rfl, hR⟩
theorem worth_s (v0 : SV) {v : SV} {A : AS} (hR : RepC v A) (hW : WF A) (x1 x2 : Int32) : ∃ v', m_X5_worth v0 v x1 x2 = some ((woA A x1 x2).1, v') ∧ RepC v' (woA A x1 x2).2 := by
  have hn := hW.1.n
  unfold m_X5_worth woA
  rw [hasPart_s hR hW.1, some_bind]
  cases h1 : ix x1 (A 0 0) with
  | none => exact ⟨v, rfl, hR⟩
  | some p =>
    obtain ⟨rfl, hp⟩ := ix_some h1
    simp only [Option.isSome_some, if_true, ne10, if_false]
    rw [exch_s (m := 10) (by omega) (by omega) (by omega) (by decide) (hR.r6 p (by omega)), some_bind, lett_eq]
    cases ix x2 10 with
    | none => exact ⟨_, rfl, by rw [upr_id]; exact hR⟩
    | some w => exact ⟨_, rfl, by rw [upr_up2]; exact hR.set (by decide)⟩
theorem like_s (v0 : SV) {v : SV} {A : AS} (hR : RepC v A) (hW : WF A) (x1 x2 : Int32) : m_X5_like v0 v x1 x2 = some (lkA A x1 x2) := by
  have hn := hW.1.n
  unfold m_X5_like lkA
  rw [hasSitter_s hR hW.1, some_bind]
  cases h1 : ix x1 (A 0 1) with
  | none => rfl
  | some s =>
    obtain ⟨rfl, hs⟩ := ix_some h1
    simp only [Option.isSome_some, if_true, ne10, if_false]
    rw [hasSitter_s hR hW.1, some_bind]
    cases h2 : ix x2 (A 0 1) with
    | none => rfl
    | some t =>
      obtain ⟨rfl, ht⟩ := ix_some h2
      simp only [Option.isSome_some, if_true, ne10, if_false]
      rw [areLike_s hR hW.1 hs ht, some_bind, ifp (bI_0 _), some_bIf]
/-! days -/
def dyN (A : AS) : Nat → AS
  | 0 => A
  | n + 1 => dyA (dyN A n)
theorem dyA_0 {A : AS} {j : Nat} (h4 : j ≠ 4) (h5 : j ≠ 5) : dyA A 0 j = A 0 j := by
  unfold dyA
  rw [aset_i h4, erA_r (by decide), dy1A_0 h5]
theorem dyA_4 {A : AS} : dyA A 0 4 = A 0 4 + 1 := by unfold dyA; rw [aset_s]
theorem dyA_r {A : AS} {r : Nat} (h0 : r ≠ 0) (h7 : r ≠ 7) (h8 : r ≠ 8) (h13 : r ≠ 13) : dyA A r = A r := by
  unfold dyA
  rw [aset_r h0, erA_r h13, dy1A_r h0 h7 h8]
theorem dyN_0 {A : AS} {j : Nat} (h4 : j ≠ 4) (h5 : j ≠ 5) : ∀ n, dyN A n 0 j = A 0 j := by
  intro n
  induction n with
  | zero => rfl
  | succ n ih => rw [dyN, dyA_0 h4 h5, ih]
theorem dyN_4 {A : AS} : ∀ n, dyN A n 0 4 = A 0 4 + n := by
  intro n
  induction n with
  | zero => rfl
  | succ n ih => rw [dyN, dyA_4, ih]; rfl
theorem dyN_r {A : AS} {r : Nat} (h0 : r ≠ 0) (h7 : r ≠ 7) (h8 : r ≠ 8) (h13 : r ≠ 13) : ∀ n, dyN A n r = A r := by
  intro n
  induction n with
  | zero => rfl
  | succ n ih => rw [dyN, dyA_r h0 h7 h8 h13, ih]
theorem WF_dyN {A : AS} (hW : WF A) : ∀ n, A 0 4 + n ≤ 100000 → WF (dyN A n) := by
  intro n
  induction n with
  | zero => intro _; exact hW
  | succ n ih => intro h; exact WF_dy (ih (by omega)) (by rw [dyN_4]; omega)
def pdA (A : AS) : Nat → Nat := sumN (fun k => if (cmA (dyN A k)).isSome then 1 else 0)
def goA (A : AS) (x : Int32) : Int32 × AS := match ix x 61 with
  | none => (-1, A)
  | some n => if A 0 4 + n < 1000 then (nI (pdA A n), dyN A n) else (-3, A)
def ahA (A : AS) (x1 x2 x3 : Int32) : Int32 := match ix x1 (A 0 1) with
  | none => -1
  | some s => match ix x2 61 with
    | none => -1
    | some n => match ix x3 2 with
      | none => -1
      | some w => if w = 0 then nI (dyN A n 13 s) - nI (A 13 s) else nI (shA (dyN A n) (some s))
def whA (A : AS) (x1 x2 : Int32) : Int32 := match ix x1 (A 0 0) with
  | none => -1
  | some p => match ix x2 (A 0 1) with
    | none => -1
    | some s => oI (firstN (fun d => decide (tpA (dyN A d) p = some s)) 61)
def hdA (A : AS) (d s : Nat) : Nat := sumN (fun k => inA (dyN A (k + 1)) s) d
def d1R (o : Option Nat) : Int32 := match o with
  | some d => nI (d + 1)
  | none => -4
def evA (A : AS) : Int32 := if A 0 1 = 0 then -4 else d1R (firstN (fun d => allN (fun s => decide (hdA A (d + 1) s = hdA A (d + 1) 0)) (A 0 1)) 60)
theorem go_s (v0 : SV) {v : SV} {A : AS} (hR : RepC v A) (hW : WF A) (x : Int32) : ∃ v', m_X5_go v0 v x = some ((goA A x).1, v') ∧ RepC v' (goA A x).2 := by
  have hn := hW.1.n
  unfold m_X5_go goA
  rw [within_s (k := 61) (by decide) (by omega), some_bind]
  cases h1 : ix x 61 with
  | none => exact ⟨v, rfl, hR⟩
  | some n =>
    obtain ⟨rfl, hn9⟩ := ix_some h1
    simp only [Option.isSome_some, bI, if_true, ne10, if_false]
    rw [hR.n (j := 4) (by omega), nI_add, show (1000 : Int32) = nI 1000 from rfl, ifp (cast_lt (by omega) (by omega))]
    by_cases hc : A 0 4 + n < 1000
    · rw [if_pos hc, if_pos hc]
      have := lp_inv (step := m_X5_go_L34 (nI n)) (fun k z => z.1 = nI (pdA A k) ∧ z.2.1 = nI k ∧ RepC z.2.2 (dyN A k)) (fun r => r.1 = nI (pdA A n) ∧ RepC r.2.2 (dyN A n)) n ?_ ?_ (s0 := ((0 : Int32), (0 : Int32), v)) ⟨rfl, rfl, hR⟩
      · obtain ⟨r, hr, hP1, hP2⟩ := this
        rw [hr, some_bind]
        unfold m_X5_go_K34
        exact ⟨_, by rw [hP1], hP2⟩
      · rintro k ⟨z1, z2, z3⟩ hk ⟨e1, e2, hI⟩
        dsimp only at e1 e2 hI
        subst e1 e2
        left
        unfold m_X5_go_L34
        dsimp +instances only
        obtain ⟨v', h3, h4⟩ := passDay_s hI (WF_dyN hW k (by omega))
        rw [if_neg (nI_ge hk (by omega)), h3, some_bind, nI_1]
        refine ⟨_, rfl, ?_, rfl, h4⟩
        show nI (pdA A k) + bI (cmA (dyN A k)).isSome = nI (pdA A k + (if (cmA (dyN A k)).isSome then 1 else 0))
        rw [← nI_add]
        cases (cmA (dyN A k)).isSome <;> rfl
      · rintro ⟨z1, z2, z3⟩ ⟨e1, e2, hI⟩
        dsimp only at e1 e2 hI
        subst e1 e2
        unfold m_X5_go_L34
        dsimp +instances only
        rw [if_pos (nI_le (Nat.le_refl _) (by omega))]
        exact ⟨_, rfl, rfl, hI⟩
    · rw [if_neg hc, if_neg hc]
      exact ⟨v, rfl, hR⟩
theorem ahead_s (v0 v2 : SV) {v : SV} {A : AS} (hR : RepC v A) (hW : WF A) (hd : A 0 4 < 1000) (x1 x2 x3 : Int32) : ∃ v', m_X5_ahead v0 v v2 x1 x2 x3 = some (ahA A x1 x2 x3, v') := by
  have hn := hW.1.n
  unfold m_X5_ahead ahA
  rw [hasSitter_s hR hW.1, some_bind, within_s (k := 61) (by decide) (by omega), within_s (k := 2) (by decide) (by omega)]
  cases h1 : ix x1 (A 0 1) with
  | none => exact ⟨v2, rfl⟩
  | some s =>
    obtain ⟨rfl, hs⟩ := ix_some h1
    simp only [Option.isSome_some, if_true, ne10, if_false, some_bind]
    cases h2 : ix x2 61 with
    | none => exact ⟨v2, rfl⟩
    | some n =>
      obtain ⟨rfl, hn9⟩ := ix_some h2
      simp only [Option.isSome_some, bI, if_true, ne10, if_false]
      cases h3 : ix x3 2 with
      | none => exact ⟨v2, rfl⟩
      | some w =>
        obtain ⟨rfl, hw⟩ := ix_some h3
        simp only [Option.isSome_some, bI, if_true, ne10, if_false]
        obtain ⟨v', h4, h5⟩ := becomes_s v2 hR
        rw [h4, some_bind]
        have := lp_inv (step := m_X5_ahead_L46 (nI n)) (fun k z => z.1 = nI k ∧ RepC z.2 (dyN A k)) (fun r => RepC r.2 (dyN A n)) n ?_ ?_ (s0 := ((0 : Int32), v')) ⟨rfl, h5⟩
        · obtain ⟨r, hr, hP⟩ := this
          have hWn := WF_dyN hW n (by omega)
          rw [hr, some_bind]
          unfold m_X5_ahead_K46
          rw [show (0 : Int32) = nI 0 from rfl, ifp (cast_eq (by omega) (by omega)), inB_nI (by omega) (by omega), ck_true, ck_true, nI_clamp (by omega), hP.r13 s (by omega), hR.r13 s (by omega), show nI s = oI (some s) from rfl, showing_s hP hWn (fun t h => by cases h; omega), some_bind]
          split
          · exact ⟨_, rfl⟩
          · exact ⟨_, rfl⟩
        · rintro k ⟨z1, z2⟩ hk ⟨e1, hI⟩
          dsimp only at e1 hI
          subst e1
          left
          unfold m_X5_ahead_L46
          dsimp +instances only
          obtain ⟨v9, h6, h7⟩ := passDay_s hI (WF_dyN hW k (by omega))
          rw [if_neg (nI_ge hk (by omega)), h6, some_bind, nI_1]
          exact ⟨_, rfl, rfl, h7⟩
        · rintro ⟨z1, z2⟩ ⟨e1, hI⟩
          dsimp only at e1 hI
          subst e1
          unfold m_X5_ahead_L46
          dsimp +instances only
          rw [if_pos (nI_le (Nat.le_refl _) (by omega))]
          exact ⟨_, rfl, hI⟩
theorem when_s (v0 v2 : SV) {v : SV} {A : AS} (hR : RepC v A) (hW : WF A) (hd : A 0 4 < 1000) (x1 x2 : Int32) : ∃ v', m_X5_when v0 v v2 x1 x2 = some (whA A x1 x2, v') := by
  have hn := hW.1.n
  unfold m_X5_when whA
  rw [hasPart_s hR hW.1, some_bind, hasSitter_s hR hW.1]
  cases h1 : ix x1 (A 0 0) with
  | none => exact ⟨v2, rfl⟩
  | some p =>
    obtain ⟨rfl, hp⟩ := ix_some h1
    simp only [Option.isSome_some, if_true, ne10, if_false, some_bind]
    cases h2 : ix x2 (A 0 1) with
    | none => exact ⟨v2, rfl⟩
    | some s =>
      obtain ⟨rfl, hs⟩ := ix_some h2
      simp only [Option.isSome_some, if_true, ne10, if_false]
      obtain ⟨v', h4, h5⟩ := becomes_s v2 hR
      rw [h4, some_bind]
      have := lp_inv (step := m_X5_when_L37 (nI p) (nI s)) (fun k z => z.1 = nI k ∧ RepC z.2 (dyN A k) ∧ ∀ j, j < k → decide (tpA (dyN A j) p = some s) = false) (fun r => ∃ v9, (Sum.elim m_X5_when_K37 (fun y => some y)) r = some (oI (firstN (fun d => decide (tpA (dyN A d) p = some s)) 61), v9)) 61 ?_ ?_ (s0 := ((0 : Int32), v')) ⟨rfl, h5, fun j hj => absurd hj (Nat.not_lt_zero j)⟩
      · obtain ⟨r, hr, v9, hP⟩ := this
        rw [hr, some_bind, hP]
        exact ⟨v9, rfl⟩
      · rintro k ⟨z1, z2⟩ hk ⟨e1, hI, hno⟩
        dsimp only at e1 hI hno
        subst e1
        have hWk := WF_dyN hW k (by omega)
        unfold m_X5_when_L37
        dsimp +instances only
        rw [show (60 : Int32) = nI 60 from rfl, if_neg (nI_nlt (by omega) (by omega)), top_s hI hWk.1 (by rw [dyN_0 (by decide) (by decide)]; exact hp), some_bind, show nI s = oI (some s) from rfl, ifp (oI_eq (fun t ht => by have := tpA_5 hWk (by omega) ht; omega) (fun t ht => by cases ht; omega))]
        by_cases hc : tpA (dyN A k) p = some s
        · right
          rw [if_pos hc]
          refine ⟨_, rfl, z2, ?_⟩
          rw [firstN_of hk (by simp [hc]) hno]
          rfl
        · left
          obtain ⟨v9, h6, h7⟩ := passDay_s hI hWk
          rw [if_neg hc, h6, some_bind, nI_1]
          refine ⟨_, rfl, rfl, h7, ?_⟩
          intro j hj
          by_cases hjk : j = k
          · subst hjk; simp [hc]
          · exact hno j (by omega)
      · rintro ⟨z1, z2⟩ ⟨e1, hI, hno⟩
        dsimp only at e1 hI hno
        subst e1
        unfold m_X5_when_L37
        dsimp +instances only
        rw [show (60 : Int32) = nI 60 from rfl, if_pos (nI_lt (by omega) (by omega))]
        refine ⟨_, rfl, z2, ?_⟩
        cases hf : firstN (fun d => decide (tpA (dyN A d) p = some s)) 61 with
        | none => rfl
        | some j => have := firstN_some hf; rw [hno j this.1] at this; cases this.2.1
