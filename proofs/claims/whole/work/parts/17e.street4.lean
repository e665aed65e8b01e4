/-! ===== PURE: days, what becomes ===== -/
theorem tpA_c {A B : AS} (h7 : A 7 = B 7) (h8 : A 8 = B 8) : tpA A = tpA B := by
  funext p
  unfold tpA
  rw [h7, h8]
theorem inA_c {A B : AS} (h0 : A 0 0 = B 0 0) (h6 : A 6 = B 6) (h7 : A 7 = B 7) (h8 : A 8 = B 8) (h9 : A 9 = B 9) : inA A = inA B := by
  funext s
  unfold inA in0A
  rw [tpA_c h7 h8, h0, h6, h9]
theorem covA_tp {A : AS} (hW : WFb A) {p s q : Nat} (hp : p < 6) (hq : q < 6) : tpA (covA A p s) q = if q = p then some s else tpA A q := by
  have b7 := hW.b7 p hp
  have b7q := hW.b7 q hq
  unfold tpA
  rw [covA_7]
  by_cases h : q = p
  · subst h
    rw [if_pos rfl, if_pos rfl]
    by_cases h4 : A 7 q = 4
    · rw [if_pos h4, if_neg (by decide), covA_8, if_pos h4, if_neg (by omega), if_pos (by omega)]
    · rw [if_neg h4, if_neg (by omega), covA_8, if_neg h4, if_pos (by omega)]
  · rw [if_neg h, if_neg h]
    by_cases hz : A 7 q = 0
    · rw [if_pos hz, if_pos hz]
    · rw [if_neg hz, if_neg hz, covA_8]
      by_cases h4 : A 7 p = 4
      · rw [if_pos h4, if_neg (by omega), if_neg (by omega)]
      · rw [if_neg h4, if_neg (by omega)]
theorem WF_cov {A : AS} (hW : WF A) {p s : Nat} (hp : p < 6) (hs : s < A 0 1) : WF (covA A p s) := by
  obtain ⟨⟨w1, w2, w3, w4, w5⟩, w6, w7⟩ := hW
  have c0 : covA A p s 0 = A 0 := covA_r (by decide) (by decide)
  have c6 : covA A p s 6 = A 6 := covA_r (by decide) (by decide)
  have c9 : covA A p s 9 = A 9 := covA_r (by decide) (by decide)
  have c10 : covA A p s 10 = A 10 := covA_r (by decide) (by decide)
  have c11 : covA A p s 11 = A 11 := covA_r (by decide) (by decide)
  have c12 : covA A p s 12 = A 12 := covA_r (by decide) (by decide)
  have c13 : covA A p s 13 = A 13 := covA_r (by decide) (by decide)
  have c14 : covA A p s 14 = A 14 := covA_r (by decide) (by decide)
  have c15 : covA A p s 15 = A 15 := covA_r (by decide) (by decide)
  have c16 : covA A p s 16 = A 16 := covA_r (by decide) (by decide)
  unfold WF WFb
  rw [c0, c6, c9, c10, c11, c12, c13, c14, c15, c16]
  refine ⟨⟨w1, w2, ?_, w4, w5⟩, ?_, w7⟩
  · intro i hi
    rw [covA_7]
    have := w3 i hi
    have := w3 p hp
    split
    · split <;> omega
    · omega
  · intro q hq k hk
    rw [covA_7] at hk
    rw [covA_8]
    have h7q := w3 q hq
    have h7p := w3 p hp
    by_cases h : q = p
    · subst h
      rw [if_pos rfl] at hk
      by_cases h4 : A 7 q = 4
      · rw [if_pos h4] at hk
        rw [if_pos h4]
        by_cases hk3 : k < 3
        · rw [if_pos (by omega)]
          exact w6 q hq (k + 1) (by omega)
        · rw [if_neg (by omega), if_pos (by omega)]
          exact hs
      · rw [if_neg h4] at hk
        rw [if_neg h4]
        by_cases hke : k = A 7 q
        · rw [if_pos (by omega)]; exact hs
        · rw [if_neg (by omega)]; exact w6 q hq k (by omega)
    · rw [if_neg h] at hk
      by_cases h4 : A 7 p = 4
      · rw [if_pos h4, if_neg (by omega), if_neg (by omega)]
        exact w6 q hq k hk
      · rw [if_neg h4, if_neg (by omega)]
        exact w6 q hq k hk
def dy1A (A : AS) : AS := match cmA A with
  | none => A
  | some s => aset (covA A (A 0 4 % A 0 0) s) 0 5 (s + 1)
def erA (B : AS) (k : Nat) : AS := fun r i => if r = 13 ∧ i < k then (if B 13 i + inA B i < 999 then B 13 i + inA B i else 999) else B r i
def dyA (A : AS) : AS := aset (erA (dy1A A) (A 0 1)) 0 4 (A 0 4 + 1)
theorem erA_r {B : AS} {k r : Nat} (h : r ≠ 13) : erA B k r = B r := by funext i; simp [erA, h]
theorem erA_13 {B : AS} {k i : Nat} : erA B k 13 i = if i < k then (if B 13 i + inA B i < 999 then B 13 i + inA B i else 999) else B 13 i := by simp [erA]
theorem erA_0 (B : AS) : erA B 0 = B := by funext r i; simp [erA]
theorem erA_s (B : AS) (k : Nat) : aset (erA B k) 13 k (if B 13 k + inA B k < 999 then B 13 k + inA B k else 999) = erA B (k + 1) := by
  funext r i
  by_cases hr : r = 13
  · subst hr
    rw [erA_13]
    by_cases hi : i = k
    · subst hi
      rw [aset_s, if_pos (show i < i + 1 by omega)]
    · rw [aset_i hi, erA_13]
      by_cases h : i < k
      · rw [if_pos h, if_pos (show i < k + 1 by omega)]
      · rw [if_neg h, if_neg (by omega)]
  · rw [aset_r hr, erA_r hr, erA_r hr]
theorem WF_set0 {A : AS} (hW : WF A) {d l : Nat} (hd : d ≤ 100000) : WF (aset A 0 4 d) := by
  obtain ⟨⟨w1, w2, w3, w4, w5⟩, w6, w7⟩ := hW
  unfold WF WFb
  rw [aset_i (show 0 ≠ 4 by decide), aset_i (show 1 ≠ 4 by decide), aset_i (show 2 ≠ 4 by decide), aset_i (show 3 ≠ 4 by decide), aset_s, aset_i (show 5 ≠ 4 by decide)]
  rw [aset_r (show 6 ≠ 0 by decide), aset_r (show 7 ≠ 0 by decide), aset_r (show 8 ≠ 0 by decide), aset_r (show 9 ≠ 0 by decide), aset_r (show 10 ≠ 0 by decide), aset_r (show 11 ≠ 0 by decide), aset_r (show 12 ≠ 0 by decide), aset_r (show 13 ≠ 0 by decide), aset_r (show 14 ≠ 0 by decide), aset_r (show 15 ≠ 0 by decide), aset_r (show 16 ≠ 0 by decide)]
  exact ⟨⟨⟨w1.1, w1.2.1, w1.2.2.1, w1.2.2.2.1, w1.2.2.2.2.1, hd, w1.2.2.2.2.2.2⟩, w2, w3, w4, w5⟩, w6, w7⟩
theorem WF_setL {A : AS} (hW : WF A) {l : Nat} (hd : l ≤ A 0 1) : WF (aset A 0 5 l) := by
  obtain ⟨⟨w1, w2, w3, w4, w5⟩, w6, w7⟩ := hW
  unfold WF WFb
  rw [aset_i (show 0 ≠ 5 by decide), aset_i (show 1 ≠ 5 by decide), aset_i (show 2 ≠ 5 by decide), aset_i (show 3 ≠ 5 by decide), aset_s, aset_i (show 4 ≠ 5 by decide)]
  rw [aset_r (show 6 ≠ 0 by decide), aset_r (show 7 ≠ 0 by decide), aset_r (show 8 ≠ 0 by decide), aset_r (show 9 ≠ 0 by decide), aset_r (show 10 ≠ 0 by decide), aset_r (show 11 ≠ 0 by decide), aset_r (show 12 ≠ 0 by decide), aset_r (show 13 ≠ 0 by decide), aset_r (show 14 ≠ 0 by decide), aset_r (show 15 ≠ 0 by decide), aset_r (show 16 ≠ 0 by decide)]
  exact ⟨⟨⟨w1.1, w1.2.1, w1.2.2.1, w1.2.2.2.1, w1.2.2.2.2.1, w1.2.2.2.2.2.1, hd⟩, w2, w3, w4, w5⟩, w6, w7⟩
theorem WF_er {A : AS} (hW : WF A) {k : Nat} : WF (erA A k) := by
  obtain ⟨⟨w1, w2, w3, w4, w5⟩, w6, w7⟩ := hW
  unfold WF WFb
  rw [erA_r (show 0 ≠ 13 by decide), erA_r (show 6 ≠ 13 by decide), erA_r (show 7 ≠ 13 by decide), erA_r (show 8 ≠ 13 by decide), erA_r (show 9 ≠ 13 by decide), erA_r (show 10 ≠ 13 by decide), erA_r (show 11 ≠ 13 by decide), erA_r (show 12 ≠ 13 by decide), erA_r (show 14 ≠ 13 by decide), erA_r (show 15 ≠ 13 by decide), erA_r (show 16 ≠ 13 by decide)]
  refine ⟨⟨w1, w2, w3, ?_, w5⟩, w6, w7⟩
  intro s hs
  have := w4 s hs
  rw [erA_13]
  refine ⟨this.1, this.2.1, this.2.2.1, this.2.2.2.1, ?_⟩
  split
  · split <;> omega
  · omega
theorem dy1A_0 {A : AS} {j : Nat} (h : j ≠ 5) : dy1A A 0 j = A 0 j := by
  unfold dy1A
  cases cmA A with
  | none => rfl
  | some s =>
    dsimp +instances only
    rw [aset_i h, covA_r (by decide) (by decide)]
theorem dy1A_r {A : AS} {r : Nat} (h0 : r ≠ 0) (h7 : r ≠ 7) (h8 : r ≠ 8) : dy1A A r = A r := by
  unfold dy1A
  cases cmA A with
  | none => rfl
  | some s =>
    dsimp +instances only
    rw [aset_r h0, covA_r h8 h7]
theorem WF_dy1 {A : AS} (hW : WF A) : WF (dy1A A) := by
  have hn := hW.1.n
  unfold dy1A
  split
  · exact hW
  · rename_i s hs
    have h1 := cmA_lt hs
    have h2 := Nat.mod_lt (A 0 4) (show A 0 0 > 0 by omega)
    refine WF_setL (WF_cov hW (by omega) h1) ?_
    rw [covA_r (by decide) (by decide)]
    omega
theorem WF_dy {A : AS} (hW : WF A) (hd : A 0 4 < 100000) : WF (dyA A) := WF_set0 (l := 0) (WF_er (WF_dy1 hW)) (by omega)
theorem passDay_s {v : SV} {A : AS} (hR : RepC v A) (hW : WF A) : ∃ v', m_X3_passDay v = some (bI (cmA A).isSome, v') ∧ RepC v' (dyA A) := by
  have hn := hW.1.n
  have hJ : ∀ (x : Int32) (v1 : SV) (B : AS), RepC v1 B → WF B → B 0 1 = A 0 1 → B 0 4 = A 0 4 → ∃ v', m_X3_passDay_J36 (x, v1) = some (x, v') ∧ RepC v' (aset (erA B (A 0 1)) 0 4 (A 0 4 + 1)) := by
    intro x v1 B h1 hB e1 e4
    have := lp_inv (step := m_X3_passDay_L38) (fun k z => z.1 = nI k ∧ RepC z.2 (erA B k)) (fun r => RepC r.2 (erA B (A 0 1))) (A 0 1) ?_ ?_ (s0 := ((0 : Int32), v1)) ⟨rfl, by rw [erA_0]; exact h1⟩
    · obtain ⟨r, hr, hP⟩ := this
      unfold m_X3_passDay_J36
      dsimp +instances only
      rw [hr, some_bind]
      unfold m_X3_passDay_K38
      dsimp +instances only
      rw [lett_eq, hP.n (j := 4) (by omega), erA_r (by decide), e4, nI_1]
      exact ⟨_, rfl, hP.set0 (by omega)⟩
    · rintro k ⟨z1, z2⟩ hk ⟨hz, hI⟩
      dsimp only at hz hI
      subst hz
      have hWk := WF_er (k := k) hB
      have b13 := (hWk.1.bs k (by rw [erA_r (by decide), e1]; exact hk)).2.2.2.2
      have hei : inA (erA B k) = inA B := inA_c (by rw [erA_r (by decide)]) (erA_r (by decide)) (erA_r (by decide)) (erA_r (by decide)) (erA_r (by decide))
      have hin := inA_le hWk.1 k
      have e13 : erA B k 13 k = B 13 k := by rw [erA_13, if_neg (Nat.lt_irrefl k)]
      rw [e13] at b13
      rw [hei] at hin
      left
      unfold m_X3_passDay_L38
      dsimp +instances only
      rw [hI.n (j := 1) (by omega), erA_r (by decide), e1, if_neg (nI_ge hk (by omega)), inB_nI (by omega) (by omega), ck_true, income_s hI hWk (by rw [erA_r (by decide), e1]; exact hk), some_bind, ck_true, nI_clamp (by omega), hI.r13 k (by omega), e13, hei, nI_add, lett_eq, show (999 : Int32) = nI 999 from rfl, ifp (cast_lt (by omega) (by omega)), nI_1]
      refine ⟨_, rfl, rfl, ?_⟩
      rw [← erA_s]
      have := hI.set (r := 13) (i := k) (x := if B 13 k + inA B k < 999 then B 13 k + inA B k else 999) (by decide)
      refine (congrArg (fun y => RepC (up2 z2 13 k y) _) ?_).mp this
      split <;> rfl
    · rintro ⟨z1, z2⟩ ⟨hz, hI⟩
      dsimp only at hz hI
      subst hz
      unfold m_X3_passDay_L38
      dsimp +instances only
      rw [hI.n (j := 1) (by omega), erA_r (by decide), e1, if_pos (nI_le (Nat.le_refl _) (by omega))]
      exact ⟨_, rfl, hI⟩
  unfold m_X3_passDay
  rw [comes_s hR hW.1, some_bind, ifp (oI_m4 (fun s hs => by have := cmA_lt hs; omega))]
  unfold dyA dy1A
  cases hc : cmA A with
  | none =>
    rw [if_pos rfl]
    exact hJ 0 v A hR hW rfl rfl
  | some s =>
    have hs := cmA_lt hc
    have hm := Nat.mod_lt (A 0 4) (show A 0 0 > 0 by omega)
    rw [if_neg (by simp), hR.n (j := 4) (by omega), hR.n (j := 0) (by omega), rem_s (by omega) (by omega) (by omega), some_bind]
    obtain ⟨v1, h1, h2⟩ := cover_s (s := s) hR hW.1 (p := A 0 4 % A 0 0) (by omega)
    rw [show oI (some s) = nI s from rfl, h1, some_bind, lett_eq]
    have hWc := WF_cov hW (p := A 0 4 % A 0 0) (by omega) hs
    obtain ⟨v2, h3, h4⟩ := hJ 1 (up2 v1 0 5 (nI s)) (aset (covA A (A 0 4 % A 0 0) s) 0 5 (s + 1)) h2.setL (WF_setL hWc (by rw [covA_r (by decide) (by decide)]; omega)) (by rw [aset_i (by decide), covA_r (by decide) (by decide)]) (by rw [aset_i (by decide), covA_r (by decide) (by decide)])
    exact ⟨v2, h3, h4⟩
theorem copyRow_s {n : Nat} (hn : n < 2 ^ 31) (f g : Nat → Int32) : m_X3_copyRow n f n g = some (va_cpy f g 0 0 n) := by
  unfold m_X3_copyRow
  have e : (if (Int32.ofNat n) < (Int32.ofNat n) then (Int32.ofNat n) else (Int32.ofNat n)) = nI n := by split <;> rfl
  rw [e, show (0 : Int32) = nI 0 from rfl, cpB_ok (by omega) (by omega) hn hn, ck_true, lett_eq, nI_clamp hn, nI_clamp (by omega)]
theorem cpy_all {f g : Nat → Int32} {n i : Nat} (h : i < n) : va_cpy f g 0 0 n i = f i := by
  rw [pk_cpy_in (by omega) (by omega)]
  congr 1
  omega
theorem becomes_s (v : SV) {u : SV} {A : AS} (hR : RepC u A) : ∃ v', m_X3_becomes v u = some v' ∧ RepC v' A := by
  unfold m_X3_becomes
  simp only [lett_eq, copyRow_s (n := 6) (by omega), copyRow_s (n := 24) (by omega), copyRow_s (n := 5) (by omega), copyRow_s (n := 4) (by omega), some_bind]
  refine ⟨_, rfl, ?_, ?_, ?_, ?_, ?_, ?_, ?_, ?_, ?_, ?_, ?_, ?_, ?_⟩
  · intro j hj
    simp (disch := decide) only [upr_n]
    have := hR.n hj
    match j, hj with
    | 0, _ => simp (disch := decide) only [up2_ss, up2_si]; exact this
    | 1, _ => simp (disch := decide) only [up2_ss, up2_si]; exact this
    | 2, _ => simp (disch := decide) only [up2_ss, up2_si]; exact this
    | 3, _ => simp (disch := decide) only [up2_ss, up2_si]; exact this
    | 4, _ => simp (disch := decide) only [up2_ss, up2_si]; exact this
  · simp (disch := decide) only [upr_n, up2_ss]
    exact hR.l
  · intro i hi; simp (disch := decide) only [upr_n, upr_s]; rw [cpy_all hi]; exact hR.r6 i hi
  · intro i hi; simp (disch := decide) only [upr_n, upr_s]; rw [cpy_all hi]; exact hR.r7 i hi
  · intro i hi; simp (disch := decide) only [upr_n, upr_s]; rw [cpy_all hi]; exact hR.r8 i hi
  · intro i hi; simp (disch := decide) only [upr_n, upr_s]; rw [cpy_all hi]; exact hR.r9 i hi
  · intro i hi; simp (disch := decide) only [upr_n, upr_s]; rw [cpy_all hi]; exact hR.r10 i hi
  · intro i hi; simp (disch := decide) only [upr_n, upr_s]; rw [cpy_all hi]; exact hR.r11 i hi
  · intro i hi; simp (disch := decide) only [upr_n, upr_s]; rw [cpy_all hi]; exact hR.r12 i hi
  · intro i hi; simp (disch := decide) only [upr_n, upr_s]; rw [cpy_all hi]; exact hR.r13 i hi
  · intro i hi; simp (disch := decide) only [upr_n, upr_s]; rw [cpy_all hi]; exact hR.r14 i hi
  · intro i hi; simp (disch := decide) only [upr_n, upr_s]; rw [cpy_all hi]; exact hR.r15 i hi
  · intro i hi; simp (disch := decide) only [upr_n, upr_s]; rw [cpy_all hi]; exact hR.r16 i hi
def sitA (A : AS) (x1 x2 : Int32) : Int32 × AS := match ix x1 (A 0 0) with
  | none => (-1, A)
  | some p => match ix x2 (A 0 1) with
    | none => (-1, A)
    | some s => if A 7 p = 4 then (-3, A) else (nI (A 7 p + 1), covA A p s)
theorem sit_s {v : SV} {A : AS} (hR : RepC v A) (hW : WFb A) (x1 x2 : Int32) : ∃ v', m_X3_sit v x1 x2 = some ((sitA A x1 x2).1, v') ∧ RepC v' (sitA A x1 x2).2 := by
  have hn := hW.n
  unfold m_X3_sit sitA
  rw [hasPart_s hR hW, some_bind, hasSitter_s hR hW, some_bind]
  cases h1 : ix x1 (A 0 0) with
  | none => exact ⟨v, rfl, hR⟩
  | some p =>
    obtain ⟨rfl, hp⟩ := ix_some h1
    have b7 := hW.b7 p (by omega)
    cases h2 : ix x2 (A 0 1) with
    | none => exact ⟨v, rfl, hR⟩
    | some s =>
      obtain ⟨rfl, hs⟩ := ix_some h2
      simp only [Option.isSome_some, if_true, show ((1 : Int32) = 0) = False from by simp, if_false]
      rw [inB_nI (by omega) (by omega), ck_true, nI_clamp (by omega), hR.r7 p (by omega), show (4 : Int32) = nI 4 from rfl, ifp (cast_eq (by omega) (by omega))]
      by_cases h4 : A 7 p = 4
      · rw [if_pos h4, if_pos h4]; exact ⟨v, rfl, hR⟩
      · rw [if_neg h4, if_neg h4]
        obtain ⟨v', h3, h5⟩ := cover_s (s := s) hR hW (p := p) (by omega)
        rw [h3, some_bind, ck_true, h5.r7 p (by omega), covA_7, if_pos rfl, if_neg h4]
        exact ⟨v', rfl, h5⟩
theorem WF_sit {A : AS} (hW : WF A) (x1 x2 : Int32) : WF (sitA A x1 x2).2 := by
  have hn := hW.1.n
  unfold sitA
  split
  · exact hW
  · rename_i p h1
    obtain ⟨-, hp⟩ := ix_some h1
    split
    · exact hW
    · rename_i s h2
      obtain ⟨-, hs⟩ := ix_some h2
      split
      · exact hW
      · exact WF_cov hW (by omega) hs
