/-! ===== PURE: the street's other methods ===== -/
def nearA (A : AS) (s t : Nat) : Bool := decide (A 10 s ≤ A 10 t + 1 ∧ A 10 t ≤ A 10 s + 1)
def finA (A : AS) (s t : Nat) : Bool := if A 9 s = 0 then nearA A s t else if A 9 s = 1 then nearA A s t || decide (A 9 t = 1) else if A 9 s = 2 then decide (A 10 s = A 10 t) else false
def likA (A : AS) (s t : Nat) : Bool := decide (s = t) || (finA A s t && finA A t s)
theorem likA_comm (A : AS) (s t : Nat) : likA A s t = likA A t s := by
  unfold likA
  rw [Bool.and_comm, show decide (s = t) = decide (t = s) from by by_cases h : s = t <;> simp [h, eq_comm]]
theorem findsLike_s {v : SV} {A : AS} (hR : RepC v A) (hW : WFb A) {s t : Nat} (hs : s < A 0 1) (ht : t < A 0 1) : m_X3_findsLike v (nI s) (nI t) = some (bI (finA A s t)) := by
  have hn := hW.n
  have b1 := hW.bs s hs
  have b2 := hW.bs t ht
  unfold m_X3_findsLike
  rw [inB_nI (by omega) (by omega), inB_nI (by omega) (by omega), ck_true, ck_true, ck_true, nI_clamp (by omega), nI_clamp (by omega), hR.r9 s (by omega), hR.r9 t (by omega), hR.r10 s (by omega), hR.r10 t (by omega), absI (by omega) (by omega)]
  have e1 : (nI (A 9 s) = (0 : Int32)) = (A 9 s = 0) := cast_eq (b := 0) (by omega) (by omega)
  have e2 : (nI (A 9 s) = (1 : Int32)) = (A 9 s = 1) := cast_eq (b := 1) (by omega) (by omega)
  have e3 : (nI (A 9 s) = (2 : Int32)) = (A 9 s = 2) := cast_eq (b := 2) (by omega) (by omega)
  have e4 : (nI (A 9 t) = (1 : Int32)) = (A 9 t = 1) := cast_eq (b := 1) (by omega) (by omega)
  generalize hd : (if A 10 t ≤ A 10 s then A 10 s - A 10 t else A 10 t - A 10 s) = d
  have hd9 : d < 100 := by rw [← hd]; split <;> omega
  have e5 : ((1 : Int32) < nI d) = (1 < d) := cast_lt (a := 1) (by omega) (by omega)
  have e6 : (nI d ≤ (1 : Int32)) = (d ≤ 1) := cast_le (b := 1) (by omega) (by omega)
  have e7 : (nI d = (0 : Int32)) = (d = 0) := cast_eq (b := 0) (by omega) (by omega)
  have hnear : nearA A s t = decide (d ≤ 1) := by
    unfold nearA
    rw [← hd]
    congr 1
    refine propext ⟨fun h => by split <;> omega, fun h => by split at h <;> omega⟩
  have heq : decide (A 10 s = A 10 t) = decide (d = 0) := by
    rw [← hd]
    congr 1
    refine propext ⟨fun h => by split <;> omega, fun h => by split at h <;> omega⟩
  simp only [e1, e2, e3, e4, e5, e6, e7]
  unfold finA
  rw [hnear, heq]
  by_cases c0 : A 9 s = 0
  · simp only [c0, if_true]
    by_cases c : 1 < d
    · rw [if_pos c]; simp [bI, show ¬ d ≤ 1 by omega]
    · rw [if_neg c]; simp [bI, show d ≤ 1 by omega]
  · simp only [c0, if_false]
    by_cases c1 : A 9 s = 1
    · simp only [c1, if_true]
      by_cases c : d ≤ 1
      · rw [if_pos c]; simp [bI, c]
      · rw [if_neg c]
        by_cases c4 : A 9 t = 1
        · rw [if_pos c4, ck_true]; simp [bI, c4]
        · rw [if_neg c4, ck_true]; simp [bI, c4, c]
    · simp only [c1, if_false]
      by_cases c2 : A 9 s = 2
      · simp only [c2, if_true]
        by_cases c : d = 0
        · rw [if_pos c]; simp [bI, c]
        · rw [if_neg c]; simp [bI, c]
      · simp only [c2, if_false]
        rfl
theorem areLike_s {v : SV} {A : AS} (hR : RepC v A) (hW : WFb A) {s t : Nat} (hs : s < A 0 1) (ht : t < A 0 1) : m_X3_areLike v (nI s) (nI t) = some (bI (likA A s t)) := by
  have hn := hW.n
  unfold m_X3_areLike
  rw [ifp (cast_eq (by omega) (by omega)), findsLike_s hR hW hs ht, some_bind, findsLike_s hR hW ht hs, some_bind, ifp (bI_0 _), ifp (bI_0 _)]
  unfold likA
  by_cases h : s = t
  · simp [h, bI]
  · rw [if_neg h]
    cases finA A s t <;> cases finA A t s <;> simp [h, bI]
def slA (A : AS) (b : Nat) : Bool := match tpA A (A 14 b), tpA A (A 15 b) with
  | some s, some t => likA A s t
  | _, _ => false
theorem showsLike_s {v : SV} {A : AS} (hR : RepC v A) (hW : WF A) {b : Nat} (hb : b < A 0 2) : m_X3_showsLike v (nI b) = some (bI (slA A b)) := by
  have hn := hW.1.n
  have hb2 := hW.2.2 b hb
  unfold m_X3_showsLike
  rw [inB_nI (by omega) (by omega)]
  simp only [ck_true]
  rw [nI_clamp (by omega), hR.r14 b (by omega), hR.r15 b (by omega), top_s hR hW.1 hb2.1, some_bind, top_s hR hW.1 hb2.2.1, some_bind]
  unfold slA
  rw [ifp (oI_m4 (fun s hs => by have := tpA_5 hW (by omega) hs; omega)), ifp (oI_m4 (fun s hs => by have := tpA_5 hW (by omega) hs; omega))]
  cases h1 : tpA A (A 14 b) with
  | none => rfl
  | some s =>
    rw [if_neg (by simp)]
    cases h2 : tpA A (A 15 b) with
    | none => rfl
    | some t =>
      rw [if_neg (by simp)]
      show (m_X3_areLike v (nI s) (nI t)).bind _ = _
      rw [areLike_s hR hW.1 (tpA_lt hW (by omega) h1) (tpA_lt hW (by omega) h2), some_bind, ifp (bI_0 _), some_bIf]
def lbA (A : AS) : Nat := sumN (fun b => if slA A b then 1 else 0) (A 0 2)
theorem likeBonds_s {v : SV} {A : AS} (hR : RepC v A) (hW : WF A) : m_X3_likeBonds v = some (nI (lbA A)) := by
  have hn := hW.1.n
  have h0 := hR.n (j := 2) (by omega)
  unfold m_X3_likeBonds
  rw [show ((0 : Int32), (0 : Int32)) = (fun k => (nI (sumN (fun b => if slA A b then 1 else 0) k), nI k)) 0 from rfl]
  rw [lp_run (step := m_X3_likeBonds_L4 v) (fun k => (nI (sumN (fun b => if slA A b then 1 else 0) k), nI k)) (A 0 2) (r := (nI (lbA A), nI (A 0 2)))]
  · rfl
  · intro k hk
    unfold m_X3_likeBonds_L4
    dsimp +instances only
    rw [h0, if_neg (nI_ge hk (by omega)), showsLike_s hR hW hk, some_bind, ifp (bI_0 _)]
    show _ = some (Sum.inl (nI (sumN _ k + (if slA A k then 1 else 0)), nI (k + 1)))
    cases slA A k
    · rw [if_pos rfl, nI_1]; rfl
    · rw [if_neg (by simp), nI_1, nI_1]; rfl
  · unfold m_X3_likeBonds_L4
    dsimp +instances only
    rw [h0, if_pos (nI_le (Nat.le_refl _) (by omega))]
    rfl
def amA (o : Option Nat) (m : Nat) : Bool := match o with
  | none => false
  | some s => m.testBit s
theorem isAmong_s {o : Option Nat} {m : Nat} (ho : ∀ s, o = some s → s < 31) (hm : m < 2 ^ 31) : m_X3_isAmong (oI o) (nI m) = some (bI (amA o m)) := by
  unfold m_X3_isAmong
  rw [ifp (oI_m4 (fun s hs => by have := ho s hs; omega))]
  cases o with
  | none => rfl
  | some s =>
    rw [if_neg (by simp)]
    show (if (nI m >>> (nI s &&& 31)) &&& (1 : Int32) = (1 : Int32) then _ else _) = _
    have e := b_t1 hm (s := s) (by have := ho s rfl; omega)
    simp only [e]
    exact some_bI _
def v1A (A : AS) (m p : Nat) : Nat := if amA (tpA A p) m then A 6 p else 0
def v2A (A : AS) (m b : Nat) : Nat := if amA (tpA A (A 14 b)) m && (amA (tpA A (A 15 b)) m && slA A b) then (if A 6 (A 15 b) < A 6 (A 14 b) then A 6 (A 15 b) else A 6 (A 14 b)) else 0
def valA (A : AS) (m : Nat) : Nat := sumN (v1A A m) (A 0 0) + sumN (v2A A m) (A 0 2)
theorem valueOf_s {v : SV} {A : AS} (hR : RepC v A) (hW : WF A) {m : Nat} (hm : m < 2 ^ 31) : m_X3_valueOf v (nI m) = some (nI (valA A m)) := by
  have hn := hW.1.n
  have h0 := hR.n (j := 0) (by omega)
  have h2 := hR.n (j := 2) (by omega)
  have hL2 : lpC (m_X3_valueOf_L41 v (nI m)) (nI (sumN (v1A A m) (A 0 0)), (0 : Int32)) = some (nI (valA A m), nI (A 0 2)) := by
    rw [show (nI (sumN (v1A A m) (A 0 0)), (0 : Int32)) = (fun k => (nI (sumN (v1A A m) (A 0 0) + sumN (v2A A m) k), nI k)) 0 from rfl]
    refine lp_run (step := m_X3_valueOf_L41 v (nI m)) (fun k => (nI (sumN (v1A A m) (A 0 0) + sumN (v2A A m) k), nI k)) (A 0 2) ?_ ?_
    · intro k hk
      have hb2 := hW.2.2 k hk
      have e6 := hW.1.b6 (A 14 k) (by omega)
      have e7 := hW.1.b6 (A 15 k) (by omega)
      have t1 := fun s hs => (by have := tpA_5 hW (p := A 14 k) (s := s) (by omega) hs; omega : s < 31)
      have t2 := fun s hs => (by have := tpA_5 hW (p := A 15 k) (s := s) (by omega) hs; omega : s < 31)
      unfold m_X3_valueOf_L41 m_X3_valueOf_J87 m_X3_valueOf_J88
      dsimp +instances only
      rw [h2, if_neg (nI_ge hk (by omega)), inB_nI (by omega) (by omega)]
      simp only [ck_true]
      rw [nI_clamp (by omega), hR.r14 k (by omega), hR.r15 k (by omega), top_s hR hW.1 hb2.1, some_bind, isAmong_s t1 hm, some_bind, top_s hR hW.1 hb2.2.1, some_bind, isAmong_s t2 hm, some_bind, showsLike_s hR hW hk, some_bind]
      rw [inB_nI (by omega) (by omega), inB_nI (by omega) (by omega), ck_true, ck_true, nI_clamp (by omega), nI_clamp (by omega), hR.r6 _ (by omega), hR.r6 _ (by omega), ifp (cast_lt (by omega) (by omega))]
      simp only [bI_0]
      show _ = some (Sum.inl (nI (sumN (v1A A m) (A 0 0) + (sumN (v2A A m) k + v2A A m k)), nI (k + 1)))
      rw [nI_1, ← Nat.add_assoc, ← nI_add _ (v2A A m k)]
      unfold v2A
      have z0 : ∀ x : Int32, x + nI 0 = x := fun x => by rw [nI_0, Int32.add_zero]
      cases amA (tpA A (A 14 k)) m
      · simp [z0]
      · cases amA (tpA A (A 15 k)) m
        · simp [z0]
        · cases slA A k
          · simp [z0]
          · simp only [show ((1 : Int32) = 0) = False from by simp, if_false, Bool.and_self, if_true, show (true = false) = False from by simp]
            split <;> rfl
    · unfold m_X3_valueOf_L41
      dsimp +instances only
      rw [h2, if_pos (nI_le (Nat.le_refl _) (by omega))]
      rfl
  unfold m_X3_valueOf
  rw [show ((0 : Int32), (0 : Int32)) = (fun k => (nI (sumN (v1A A m) k), nI k)) 0 from rfl]
  rw [lp_run (step := m_X3_valueOf_L4 v (nI m)) (fun k => (nI (sumN (v1A A m) k), nI k)) (A 0 0) (r := (nI (sumN (v1A A m) (A 0 0)), nI (A 0 0)))]
  · rw [some_bind]
    unfold m_X3_valueOf_K4
    dsimp +instances only
    rw [hL2]
    rfl
  · intro k hk
    have t1 := fun s hs => (by have := tpA_5 hW (p := k) (s := s) (by omega) hs; omega : s < 31)
    unfold m_X3_valueOf_L4
    dsimp +instances only
    rw [h0, if_neg (nI_ge hk (by omega)), top_s hR hW.1 hk, some_bind, isAmong_s t1 hm, some_bind, ifp (bI_0 _)]
    show _ = some (Sum.inl (nI (sumN (v1A A m) k + v1A A m k), nI (k + 1)))
    unfold v1A
    rw [inB_nI (by omega) (by omega), ck_true, nI_clamp (by omega), hR.r6 k (by omega), nI_1, nI_add]
    cases amA (tpA A k) m
    · rfl
    · simp
  · unfold m_X3_valueOf_L4
    dsimp +instances only
    rw [h0, if_pos (nI_le (Nat.le_refl _) (by omega))]
theorem everybody_s {v : SV} {A : AS} (hR : RepC v A) (hW : WFb A) : m_X3_everybody v = some (nI (2 ^ A 0 1 - 1)) := by
  have hn := hW.n
  unfold m_X3_everybody
  rw [hR.n (j := 1) (by omega), b_ev (by omega)]
def exA1 (A : AS) (m f p : Nat) : Bool := m.testBit p && amA (tpA A p) (A 16 f)
def exA (A : AS) (m : Nat) : Bool := allN (fun f => anyN (exA1 A m f) (A 0 0)) (A 0 3)
theorem exposesAll_s {v : SV} {A : AS} (hR : RepC v A) (hW : WF A) {m : Nat} (hm : m < 2 ^ 31) : m_X3_exposesAll v (nI m) = some (bI (exA A m)) := by
  have hn := hW.1.n
  have h0 := hR.n (j := 0) (by omega)
  have h3 := hR.n (j := 3) (by omega)
  have hin : ∀ f, f < A 0 3 → lpC (m_X3_exposesAll_L15 v (nI m) (nI f)) ((0 : Int32), (0 : Int32)) = some (bI (anyN (exA1 A m f) (A 0 0)), nI (A 0 0)) := by
    intro f hf
    rw [show ((0 : Int32), (0 : Int32)) = (fun k => (bI (anyN (exA1 A m f) k), nI k)) 0 from rfl]
    refine lp_run (step := m_X3_exposesAll_L15 v (nI m) (nI f)) (fun k => (bI (anyN (exA1 A m f) k), nI k)) (A 0 0) ?_ ?_
    · intro k hk
      have t1 := fun s hs => (by have := tpA_5 hW (p := k) (s := s) (by omega) hs; omega : s < 31)
      have b16 := hW.1.b16 f hf
      unfold m_X3_exposesAll_L15
      dsimp +instances only
      rw [h0, if_neg (nI_ge hk (by omega)), top_s hR hW.1 hk, some_bind, inB_nI (by omega) (by omega), ck_true, nI_clamp (by omega), hR.r16 f (by omega), isAmong_s t1 (by omega), some_bind]
      simp only [bI_0]
      have e := b_t1 hm (s := k) (by omega)
      simp only [e]
      show _ = some (Sum.inl (bI (anyN (exA1 A m f) k || exA1 A m f k), nI (k + 1)))
      rw [nI_1]
      unfold exA1
      cases anyN (fun p => m.testBit p && amA (tpA A p) (A 16 f)) k <;> cases m.testBit k <;> cases amA (tpA A k) (A 16 f) <;> simp [bI]
    · unfold m_X3_exposesAll_L15
      dsimp +instances only
      rw [h0, if_pos (nI_le (Nat.le_refl _) (by omega))]
  unfold m_X3_exposesAll
  rw [show (0 : Int32) = (fun k => nI k) 0 from rfl]
  rw [lp_first (step := m_X3_exposesAll_L2 v (nI m)) (fun k => nI k) (fun f => ! anyN (exA1 A m f) (A 0 0)) (fun _ => .inr (0 : Int32)) (.inl (nI (A 0 3))) (A 0 3)]
  · unfold exA
    rw [allN_first]
    cases firstN (fun f => ! anyN (exA1 A m f) (A 0 0)) (A 0 3) <;> rfl
  · intro k hk hg
    unfold m_X3_exposesAll_L2
    rw [h3, if_neg (nI_ge hk (by omega)), hin k hk, some_bind]
    unfold m_X3_exposesAll_K15
    dsimp +instances only
    have : anyN (exA1 A m k) (A 0 0) = true := by simpa using hg
    rw [this, if_neg (by decide), nI_1]
  · intro k hk hg
    unfold m_X3_exposesAll_L2
    rw [h3, if_neg (nI_ge hk (by omega)), hin k hk, some_bind]
    unfold m_X3_exposesAll_K15
    dsimp +instances only
    have : anyN (exA1 A m k) (A 0 0) = false := by simpa using hg
    rw [this, if_pos (by decide)]
  · unfold m_X3_exposesAll_L2
    rw [h3, if_pos (nI_le (Nat.le_refl _) (by omega))]
def sumA (A : AS) (r : Nat) : Nat := sumN (A r) (A 0 0)
theorem sumOf_s {v : SV} {A : AS} (hR : RepC v A) (hW : WFb A) {f : Nat → Int32} {r : Nat} (hf : ∀ i, i < 6 → f i = nI (A r i)) : m_X3_sumOf v 6 f = some (nI (sumA A r)) := by
  have hn := hW.n
  have h0 := hR.n (j := 0) (by omega)
  unfold m_X3_sumOf
  rw [show ((0 : Int32), (0 : Int32)) = (fun k => (nI (sumN (A r) k), nI k)) 0 from rfl]
  rw [lp_run (step := m_X3_sumOf_L4 v 6 f) (fun k => (nI (sumN (A r) k), nI k)) (A 0 0) (r := (nI (sumA A r), nI (A 0 0)))]
  · rfl
  · intro k hk
    unfold m_X3_sumOf_L4
    dsimp +instances only
    rw [h0, if_neg (nI_ge hk (by omega)), if_neg (show ¬ Int32.ofNat 6 ≤ nI k from nI_ge (by omega) (by omega)), inB_nI (by omega) (by omega), ck_true, nI_clamp (by omega), hf k (by omega), nI_1, nI_add]
    rfl
  · unfold m_X3_sumOf_L4
    dsimp +instances only
    rw [h0, if_pos (nI_le (Nat.le_refl _) (by omega))]
    rfl
theorem rem_s {a b : Nat} (ha : a < 2 ^ 31) (hb : b < 2 ^ 31) (h0 : 0 < b) : m_X3_remainder (nI a) (nI b) = some (nI (a % b)) := by
  unfold m_X3_remainder
  rw [if_neg (nI_nle h0 hb), show dvB (nI b) = true from decide_eq_true (nI_ne0 h0 hb), ck_true, pk_rem ha h0 hb]
/-- who comes on the day -/
def cmA (A : AS) : Option Nat := (firstN (fun k => (A 12 ((A 0 5 + k) % A 0 1)).testBit (A 0 4 % 7)) (A 0 1)).map (fun k => (A 0 5 + k) % A 0 1)
theorem cmA_lt {A : AS} {s : Nat} (h : cmA A = some s) : s < A 0 1 := by
  unfold cmA at h
  cases hf : firstN (fun k => (A 12 ((A 0 5 + k) % A 0 1)).testBit (A 0 4 % 7)) (A 0 1) with
  | none => rw [hf] at h; cases h
  | some k =>
    rw [hf] at h
    cases h
    exact Nat.mod_lt _ (by have := (firstN_some hf).1; omega)
theorem comes_s {v : SV} {A : AS} (hR : RepC v A) (hW : WFb A) : m_X3_comes v = some (oI (cmA A)) := by
  have hn := hW.n
  have h1 := hR.n (j := 1) (by omega)
  have h4 := hR.n (j := 4) (by omega)
  have hJ : ∀ z : Int32, (∀ k, z + nI (k + 1) = nI (A 0 5 + k)) → m_X3_comes_J17 v z = some (oI (cmA A)) := by
    intro z hz
    unfold m_X3_comes_J17
    rw [h4, show (7 : Int32) = nI 7 from rfl, rem_s (by omega) (by omega) (by omega), some_bind]
    rw [show (1 : Int32) = (fun k => nI (k + 1)) 0 from rfl]
    rw [lp_first (step := m_X3_comes_L30 v z (nI (A 0 4 % 7))) (fun k => nI (k + 1)) (fun k => (A 12 ((A 0 5 + k) % A 0 1)).testBit (A 0 4 % 7)) (fun k => .inr (nI ((A 0 5 + k) % A 0 1))) (.inl (nI (A 0 1 + 1))) (A 0 1)]
    · unfold cmA
      cases firstN (fun k => (A 12 ((A 0 5 + k) % A 0 1)).testBit (A 0 4 % 7)) (A 0 1) <;> rfl
    all_goals try intro k hk hg
    all_goals unfold m_X3_comes_L30
    all_goals rw [h1]
    · have hm := Nat.mod_lt (A 0 5 + k) (show A 0 1 > 0 by omega)
      have bs := hW.bs _ hm
      have hd := Nat.mod_lt (A 0 4) (show 7 > 0 by omega)
      rw [if_neg (nI_nlt (by omega) (by omega)), hz, rem_s (by omega) (by omega) (by omega), some_bind, inB_nI (by omega) (by omega), ck_true, nI_clamp (by omega), hR.r12 _ (by omega)]
      have e := b_t1 (m := A 12 ((A 0 5 + k) % A 0 1)) (s := A 0 4 % 7) (by omega) (by omega)
      simp only [e]
      rw [if_neg (by simp [hg]), nI_1]
    · have hm := Nat.mod_lt (A 0 5 + k) (show A 0 1 > 0 by omega)
      have bs := hW.bs _ hm
      have hd := Nat.mod_lt (A 0 4) (show 7 > 0 by omega)
      rw [if_neg (nI_nlt (by omega) (by omega)), hz, rem_s (by omega) (by omega) (by omega), some_bind, inB_nI (by omega) (by omega), ck_true, nI_clamp (by omega), hR.r12 _ (by omega)]
      have e := b_t1 (m := A 12 ((A 0 5 + k) % A 0 1)) (s := A 0 4 % 7) (by omega) (by omega)
      simp only [e]
      rw [if_pos hg]
    · rw [if_pos (nI_lt (by omega) (by omega))]
  unfold m_X3_comes
  rw [hR.l]
  unfold ltA
  by_cases hz : A 0 5 = 0
  · rw [if_pos hz]
    rw [if_pos (show oI none = -4 from rfl)]
    exact hJ _ (fun k => by rw [hz, Nat.zero_add, Int32.add_comm]; exact pk_m1 k)
  · rw [if_neg hz, ifp (oI_m4 (fun s hs => by cases hs; omega)), if_neg (by simp)]
    exact hJ _ (fun k => by show nI (A 0 5 - 1) + nI (k + 1) = _; rw [nI_add, show A 0 5 - 1 + (k + 1) = A 0 5 + k by omega])
/-- what one earns on a day -/
def in0A (A : AS) (s : Nat) : Nat := sumN (fun p => if tpA A p = some s then A 6 p else 0) (A 0 0)
def inA (A : AS) (s : Nat) : Nat := if A 9 s = 2 then in0A A s / 2 else in0A A s
theorem in0A_le {A : AS} (hW : WFb A) (s : Nat) : in0A A s ≤ 54 := by
  have hn := hW.n
  have := sumN_leN (f := fun p => if tpA A p = some s then A 6 p else 0) (b := 9) (A 0 0) (fun k hk => by have := hW.b6 k (by omega); split <;> omega)
  have : A 0 0 * 9 ≤ 6 * 9 := Nat.mul_le_mul_right 9 (by omega)
  unfold in0A
  omega
theorem inA_le {A : AS} (hW : WFb A) (s : Nat) : inA A s ≤ 54 := by
  have := in0A_le hW s
  unfold inA
  split <;> omega
theorem income_s {v : SV} {A : AS} (hR : RepC v A) (hW : WF A) {s : Nat} (hs : s < A 0 1) : m_X3_income v (nI s) = some (nI (inA A s)) := by
  have hn := hW.1.n
  have h0 := hR.n (j := 0) (by omega)
  have bs := hW.1.bs s hs
  unfold m_X3_income
  rw [show ((0 : Int32), (0 : Int32)) = (fun k => (nI (sumN (fun p => if tpA A p = some s then A 6 p else 0) k), nI k)) 0 from rfl]
  rw [lp_run (step := m_X3_income_L4 v (nI s)) (fun k => (nI (sumN (fun p => if tpA A p = some s then A 6 p else 0) k), nI k)) (A 0 0) (r := (nI (in0A A s), nI (A 0 0)))]
  · have h9 := in0A_le hW.1 s
    rw [some_bind]
    unfold m_X3_income_K4 inA
    dsimp +instances only
    rw [inB_nI (by omega) (by omega), ck_true, nI_clamp (by omega), hR.r9 s (by omega)]
    rw [show (2 : Int32) = nI 2 from rfl, ifp (cast_eq (by omega) (by omega)), pk_div (by omega) (by omega) (by omega), some_if]
    split <;> rfl
  · intro k hk
    unfold m_X3_income_L4
    dsimp +instances only
    rw [h0, if_neg (nI_ge hk (by omega)), top_s hR hW.1 hk, some_bind, show nI s = oI (some s) from rfl, ifp (oI_eq (fun s hs => by have := tpA_5 hW (by omega) hs; omega) (fun t ht => by cases ht; omega)), inB_nI (by omega) (by omega), ck_true, nI_clamp (by omega), hR.r6 k (by omega)]
    show _ = some (Sum.inl (nI (sumN _ k + (if tpA A k = some s then A 6 k else 0)), nI (k + 1)))
    rw [nI_1, nI_add]
    split <;> rfl
  · unfold m_X3_income_L4
    dsimp +instances only
    rw [h0, if_pos (nI_le (Nat.le_refl _) (by omega))]
    rfl
