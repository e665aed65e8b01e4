/-! ===== PURE: the walk: what can stand where ===== -/
def mxN (a b : Nat) : Nat := if a < b then b else a
def mnN (a b : Nat) : Nat := if b < a then b else a
theorem mx_s {a b : Nat} (ha : a < 2 ^ 31) (hb : b < 2 ^ 31) : (if nI a < nI b then nI b else nI a) = nI (mxN a b) := by
  rw [ifp (cast_lt ha hb)]
  unfold mxN
  split <;> rfl
theorem mn_s {a b : Nat} (ha : a < 2 ^ 31) (hb : b < 2 ^ 31) : (if nI b < nI a then nI b else nI a) = nI (mnN a b) := by
  rw [ifp (cast_lt hb ha)]
  unfold mnN
  split <;> rfl
theorem mn_lt {a b : Nat} (h : a ≠ b) : mnN a b < mxN a b := by unfold mnN mxN; split <;> split <;> omega
theorem mx_lt {a b n : Nat} (ha : a < n) (hb : b < n) : mxN a b < n := by unfold mxN; split <;> omega
theorem orN_and (f g : Nat → Bool) (n : Nat) : orN f n &&& orN g n = orN (fun s => f s && g s) n := by
  apply Nat.eq_of_testBit_eq
  intro i
  rw [Nat.testBit_and, orN_tb, orN_tb, orN_tb]
  cases decide (i < n) <;> simp
theorem orN_and2 (f : Nat → Bool) (n d : Nat) : orN f n &&& 2 ^ d = orN (fun s => f s && decide (d = s)) n := by
  apply Nat.eq_of_testBit_eq
  intro i
  rw [Nat.testBit_and, orN_tb, orN_tb, Nat.testBit_two_pow]
  cases decide (i < n) <;> simp
def clr (a d : Nat) : Nat := orN (fun i => a.testBit i && ! decide (d = i)) 5
theorem clr_s : ∀ a, a < 32 → ∀ d, d < 5 → nI a &&& (((1 : Int32) <<< (nI d &&& 31)) ^^^ (-1 : Int32)) = nI (clr a d) := by decide +kernel
theorem orN_clr (f : Nat → Bool) {n : Nat} (hn : n ≤ 5) (d : Nat) : clr (orN f n) d = orN (fun s => f s && ! decide (d = s)) n := by
  apply Nat.eq_of_testBit_eq
  intro i
  unfold clr
  rw [orN_tb, orN_tb, orN_tb]
  by_cases h : i < n
  · rw [decide_eq_true h, decide_eq_true (show i < 5 by omega)]; simp
  · rw [decide_eq_false h]; simp
theorem orN_tr {n : Nat} (h : n ≤ 6) : ∀ n, n ≤ 6 → orN (fun _ => true) n = 2 ^ n - 1 := by decide +kernel
def lkM (A : AS) (s : Nat) : Nat := orN (fun t => likA A s t) (A 0 1)
def okB (A : AS) (fig : Nat → Nat) (p s b : Nat) : Bool := ! decide (mxN (A 14 b) (A 15 b) = p) || likA A (fig (mnN (A 14 b) (A 15 b))) s
def okN (S : AS) (fig : Nat → Nat) (p s k : Nat) : Bool := ! decide (mxN (S 1 k) (S 2 k) = p) || (decide (fig (mnN (S 1 k) (S 2 k)) = s) == decide (S 3 k = 1))
def okS (A S : AS) (h : Nat) (fig : Nat → Nat) (p s : Nat) : Bool := allN (okB A fig p s) (A 0 2) && allN (okN S fig p s) h
def awM (A S : AS) (h : Nat) (fig : Nat → Nat) (p : Nat) : Nat := orN (okS A S h fig p) (A 0 1)
theorem orN_lt32 (f : Nat → Bool) {n : Nat} (hn : n ≤ 5) : orN f n < 32 := by
  have := orN_lt f n
  have : 2 ^ n ≤ 32 := p2_le (b := 5) hn
  omega
/-- what is given of the walk's own rows -/
def WC (v : SV) (A : AS) (h q b D : Nat) (pr : Nat → Nat → Nat) : Prop := v 0 2 = nI h ∧ v 0 3 = nI q ∧ v 0 4 = nI b ∧ v 0 6 = nI D ∧ (∀ s, s < A 0 1 → v 7 s = nI (lkM A s)) ∧ (∀ p, p < A 0 0 → ∀ s, s < A 0 1 → v 11 (p * 5 + s) = nI (pr p s)) ∧ v 10 0 = nI 0
theorem allowedAt_s {v u w7 w : SV} {A S : AS} {h p : Nat} {fig : Nat → Nat} (hR : RepC u A) (hW : WF A) (hS : RepN w7 w S A) (hh : h ≤ S 0 0) (h2 : v 0 2 = nI h) (h7 : ∀ s, s < A 0 1 → v 7 s = nI (lkM A s)) (h8 : ∀ i, i < p → v 8 i = nI (fig i) ∧ fig i < A 0 1) (hp : p < A 0 0) : m_X4_allowedAt v u w7 (nI p) = some (nI (awM A S h fig p)) := by
  have hn := hW.1.n
  obtain ⟨s1, -, s3, s4⟩ := hS
  unfold m_X4_allowedAt
  rw [everybody_s hR hW.1, some_bind]
  have hl1 : lpC (m_X4_allowedAt_L10 v u (nI p)) (nI (2 ^ A 0 1 - 1), (0 : Int32)) = some (nI (orN (fun s => allN (okB A fig p s) (A 0 2)) (A 0 1)), nI (A 0 2)) := by
    rw [show (nI (2 ^ A 0 1 - 1), (0 : Int32)) = (fun k => (nI (orN (fun s => allN (okB A fig p s) k) (A 0 1)), nI k)) 0 from by
      show _ = (nI (orN (fun _ => true) (A 0 1)), nI 0)
      rw [orN_tr (n := 0) (by omega) (A 0 1) (by omega)]
      rfl]
    refine lp_run (step := m_X4_allowedAt_L10 v u (nI p)) (fun k => (nI (orN (fun s => allN (okB A fig p s) k) (A 0 1)), nI k)) (A 0 2) ?_ ?_
    · intro k hk
      have hb := hW.2.2 k hk
      have hmn := mn_lt hb.2.2
      have hmx := mx_lt hb.1 hb.2.1
      unfold m_X4_allowedAt_L10
      dsimp +instances only
      rw [hR.n (j := 2) (by omega), if_neg (nI_ge hk (by omega)), inB_nI (by omega) (by omega), ck_true, ck_true, nI_clamp (by omega), hR.r14 k (by omega), hR.r15 k (by omega), mx_s (by omega) (by omega), mn_s (by omega) (by omega), ifp (cast_eq (by omega) (by omega)), nI_1]
      show _ = some (Sum.inl (nI (orN (fun s => allN (okB A fig p s) k && okB A fig p s k) (A 0 1)), nI (k + 1)))
      by_cases hc : mxN (A 14 k) (A 15 k) = p
      · obtain ⟨e8, hf⟩ := h8 (mnN (A 14 k) (A 15 k)) (by omega)
        have hk7 := h7 _ hf
        rw [if_pos hc, ck_true, ck_true, inB_nI (by omega) (by omega), ck_true, nI_clamp (by omega), e8, inB_nI (by omega) (by omega), ck_true, nI_clamp (by omega), hk7, nx_and]
        unfold lkM
        rw [orN_and]
        congr 5
        funext s
        unfold okB
        rw [decide_eq_true hc, Bool.not_true, Bool.false_or]
      · rw [if_neg hc]
        congr 5
        funext s
        unfold okB
        rw [decide_eq_false hc, Bool.not_false, Bool.true_or, Bool.and_true]
    · unfold m_X4_allowedAt_L10
      dsimp +instances only
      rw [hR.n (j := 2) (by omega), if_pos (nI_le (Nat.le_refl _) (by omega))]
  rw [hl1, some_bind]
  unfold m_X4_allowedAt_K10
  dsimp +instances only
  have hl2 : lpC (m_X4_allowedAt_L88 v w7 (nI p)) (nI (orN (fun s => allN (okB A fig p s) (A 0 2)) (A 0 1)), (0 : Int32)) = some (nI (awM A S h fig p), nI h) := by
    rw [show (nI (orN (fun s => allN (okB A fig p s) (A 0 2)) (A 0 1)), (0 : Int32)) = (fun k => (nI (orN (fun s => allN (okB A fig p s) (A 0 2) && allN (okN S fig p s) k) (A 0 1)), nI k)) 0 from by
      show _ = (nI (orN (fun s => allN (okB A fig p s) (A 0 2) && true) (A 0 1)), nI 0)
      simp only [Bool.and_true]
      rfl]
    refine lp_run (step := m_X4_allowedAt_L88 v w7 (nI p)) (fun k => (nI (orN (fun s => allN (okB A fig p s) (A 0 2) && allN (okN S fig p s) k) (A 0 1)), nI k)) h ?_ ?_
    · intro k hk
      obtain ⟨e1, e2, e3, -, -, -, l1, l2, l3⟩ := s4 k (by omega)
      have hmn := mn_lt l3
      have hmx := mx_lt l1 l2
      unfold m_X4_allowedAt_L88
      dsimp +instances only
      rw [h2, if_neg (nI_ge hk (by omega)), inB_nI (by omega) (by omega), ck_true, ck_true, nI_clamp (by omega), e1, e2, mx_s (by omega) (by omega), mn_s (by omega) (by omega), ifp (cast_eq (by omega) (by omega)), nI_1]
      show _ = some (Sum.inl (nI (orN (fun s => allN (okB A fig p s) (A 0 2) && (allN (okN S fig p s) k && okN S fig p s k)) (A 0 1)), nI (k + 1)))
      by_cases hc : mxN (S 1 k) (S 2 k) = p
      · obtain ⟨e8, hf⟩ := h8 (mnN (S 1 k) (S 2 k)) (by omega)
        rw [if_pos hc, ck_true, ck_true, inB_nI (by omega) (by omega), ck_true, ck_true, nI_clamp (by omega), e8, e3, ifp (bI_0 _), clr_s _ (orN_lt32 _ (by omega)) _ (by omega), orN_clr _ (by omega), b_two (by omega), nx_and, orN_and2]
        by_cases hb : S 3 k = 1
        · rw [decide_eq_true hb, if_neg (by simp)]
          congr 5
          funext s
          unfold okN
          rw [decide_eq_true hc, decide_eq_true hb, Bool.not_true, Bool.false_or, Bool.and_assoc]
          cases decide (fig (mnN (S 1 k) (S 2 k)) = s) <;> rfl
        · rw [decide_eq_false hb, if_pos rfl]
          congr 5
          funext s
          unfold okN
          rw [decide_eq_true hc, decide_eq_false hb, Bool.not_true, Bool.false_or, Bool.and_assoc]
          cases decide (fig (mnN (S 1 k) (S 2 k)) = s) <;> rfl
      · rw [if_neg hc]
        congr 5
        funext s
        unfold okN
        rw [decide_eq_false hc, Bool.not_false, Bool.true_or, Bool.and_true]
    · unfold m_X4_allowedAt_L88
      dsimp +instances only
      rw [h2, if_pos (nI_le (Nat.le_refl _) (by omega))]
      rfl
  rw [hl2, some_bind]
  rfl
theorem open_s {v u w7 w : SV} {A S : AS} {h p : Nat} {fig : Nat → Nat} (hR : RepC u A) (hW : WF A) (hS : RepN w7 w S A) (hh : h ≤ S 0 0) (h2 : v 0 2 = nI h) (h7 : ∀ s, s < A 0 1 → v 7 s = nI (lkM A s)) (h8 : ∀ i, i < p → v 8 i = nI (fig i) ∧ fig i < A 0 1) (hp : p < A 0 0) : m_X4_open v u w7 (nI p) = some (up2 (up2 (up2 v 0 5 (nI p)) 8 p (-1)) 9 p (nI (awM A S h fig p))) := by
  have hn := hW.1.n
  unfold m_X4_open
  rw [lett_eq, inB_nI (by omega) (by omega), ck_true, nI_clamp (by omega), lett_eq]
  rw [allowedAt_s (h := h) (S := S) (fig := fig) hR hW hS hh (by rw [up2_n (by decide), up2_si (by decide), h2]) (fun s hs => by rw [up2_n (by decide), up2_n (by decide)]; exact h7 s hs) (fun i hi => by rw [up2_si (by omega), up2_n (by decide)]; exact h8 i hi) hp, some_bind, ck_true, lett_eq]
def tmN (fig : Nat → Nat) (p s : Nat) : Nat := sumN (fun i => if fig i = s then 1 else 0) p
theorem tmN_le (fig : Nat → Nat) (p s : Nat) : tmN fig p s ≤ p := by
  have := sumN_leN (f := fun i => if fig i = s then 1 else 0) (b := 1) p (fun k _ => by split <;> omega)
  unfold tmN
  omega
theorem timesAhead_s {v : SV} (u w7 : SV) {p s n : Nat} {fig : Nat → Nat} (h5 : v 0 5 = nI p) (h8 : ∀ i, i < p → v 8 i = nI (fig i) ∧ fig i < n) (hp : p < 6) (hn : n ≤ 5) (hs : s < n) : m_X4_timesAhead v u w7 (nI s) = some (nI (tmN fig p s)) := by
  unfold m_X4_timesAhead
  rw [show ((0 : Int32), (0 : Int32)) = (fun k => (nI (tmN fig k s), nI k)) 0 from rfl]
  rw [lp_run (step := m_X4_timesAhead_L4 v (nI s)) (fun k => (nI (tmN fig k s), nI k)) p (r := (nI (tmN fig p s), nI p))]
  · rfl
  · intro k hk
    obtain ⟨e8, hf⟩ := h8 k hk
    unfold m_X4_timesAhead_L4
    dsimp +instances only
    rw [h5, if_neg (nI_ge hk (by omega)), inB_nI (by omega) (by omega), ck_true, nI_clamp (by omega), e8, ifp (cast_eq (by omega) (by omega)), nI_1, nI_1]
    show _ = some (Sum.inl (nI (tmN fig k s + (if fig k = s then 1 else 0)), nI (k + 1)))
    split <;> rfl
  · unfold m_X4_timesAhead_L4
    dsimp +instances only
    rw [h5, if_pos (nI_le (Nat.le_refl _) (by omega))]
def spN (pr : Nat → Nat → Nat) (fig : Nat → Nat) : Nat → Nat := sumN (fun j => pr j (fig j))
/-- where the walk stands: at part p, the figures ahead of it, the next figure to be tried there -/
def WQ (v : SV) (A S : AS) (h : Nat) (pr : Nat → Nat → Nat) (p : Nat) (fig : Nat → Nat) (fp : Nat) : Prop := v 0 5 = nI p ∧ (∀ i, i < p → v 8 i = nI (fig i) ∧ fig i < A 0 1) ∧ v 8 p + 1 = nI fp ∧ (∀ i, i ≤ p → v 9 i = nI (awM A S h fig i)) ∧ (∀ i, i ≤ p → v 10 i = nI (spN pr fig i))
def okT (A : AS) (q : Nat) (fig : Nat → Nat) (p s : Nat) : Bool := decide (A 0 0 ≤ q) || decide (tmN fig p s < q)
def okF (A S : AS) (h q b : Nat) (pr : Nat → Nat → Nat) (fig : Nat → Nat) (p s : Nat) : Bool := okS A S h fig p s && (decide (spN pr fig p + pr p s < b) && okT A q fig p s)
theorem spN_le {pr : Nat → Nat → Nat} (hpr : ∀ p s, pr p s ≤ 81) (fig : Nat → Nat) (p : Nat) : spN pr fig p ≤ p * 81 := sumN_leN p (fun k _ => hpr k (fig k))
theorem following_s {v u : SV} (w7 : SV) {A S : AS} {h q b D p fp : Nat} {pr : Nat → Nat → Nat} {fig : Nat → Nat} (hR : RepC u A) (hW : WF A) (hC : WC v A h q b D pr) (hs : WQ v A S h pr p fig fp) (hp : p < A 0 0) (hfp : fp ≤ A 0 1) (hq : q ≤ 6) (hb : b ≤ 1000) (hpr : ∀ p s, pr p s ≤ 81) : m_X4_followingFigure v u w7 = some (oI ((firstN (fun j => okF A S h q b pr fig p (fp + j)) (A 0 1 - fp)).map (fun j => fp + j))) := by
  have hn := hW.1.n
  obtain ⟨c2, c3, c4, c6, c7, c11, c10⟩ := hC
  obtain ⟨s5, s8, s8p, s9, s10⟩ := hs
  unfold m_X4_followingFigure
  rw [s5, inB_nI (by omega) (by omega), ck_true, nI_clamp (by omega), s8p]
  have hsp := spN_le hpr fig p
  rw [show nI fp = (fun j => nI (fp + j)) 0 from rfl]
  have hst : ∀ j, j < A 0 1 - fp → m_X4_followingFigure_L12 v u w7 (nI (fp + j)) = if okF A S h q b pr fig p (fp + j) then some (.inr (.inr (nI (fp + j)))) else some (.inl (nI (fp + (j + 1)))) := by
    intro j hj
    have hpj := hpr p (fp + j)
    have htb : (awM A S h fig p).testBit (fp + j) = okS A S h fig p (fp + j) := by
      unfold awM
      rw [orN_tb, decide_eq_true (show fp + j < A 0 1 by omega), Bool.true_and]
    have ht := timesAhead_s u w7 (s := fp + j) s5 s8 (by omega) (show A 0 1 ≤ 5 by omega) (by omega)
    have htl := tmN_le fig p (fp + j)
    unfold m_X4_followingFigure_L12 m_X4_followingFigure_J74 m_X4_followingFigure_J75
    rw [hR.n (j := 1) (by omega), if_neg (nI_ge (by omega) (by omega)), s5, inB_nI (by omega) (by omega), ck_true, nI_clamp (by omega), s9 p (Nat.le_refl _), ifp (b_t1 (m := awM A S h fig p) (s := fp + j) (by have := orN_lt32 (okS A S h fig p) (show A 0 1 ≤ 5 by omega); unfold awM; omega) (by omega)), inB_nI (by omega) (by omega), ck_true, li_5, pk_mul, nI_add, inB_nI (by omega) (by omega), ck_true, nI_clamp (by omega), s10 p (Nat.le_refl _), c11 p hp (fp + j) (by omega), c4, nI_add, ifp (cast_le (by omega) (by omega)), if_pos (show (0 : Int32) = 0 from rfl), if_neg (show ¬ (1 : Int32) = 0 from by decide), hR.n (j := 0) (by omega), c3, ifp (cast_le (by omega) (by omega)), ht, some_bind, ifp (cast_le (by omega) (by omega)), nI_1, htb]
    unfold okF okT
    cases okS A S h fig p (fp + j) with
    | false => rw [if_neg (by simp), if_neg (by simp)]; rfl
    | true =>
      rw [if_pos rfl]
      by_cases h1 : b ≤ spN pr fig p + pr p (fp + j)
      · rw [if_pos h1, decide_eq_false (show ¬ spN pr fig p + pr p (fp + j) < b by omega), if_neg (by simp)]; rfl
      · rw [if_neg h1, decide_eq_true (show spN pr fig p + pr p (fp + j) < b by omega)]
        by_cases h2 : A 0 0 ≤ q
        · rw [if_pos h2, decide_eq_true h2, if_pos (by simp)]
        · rw [if_neg h2, decide_eq_false h2]
          by_cases h3 : q ≤ tmN fig p (fp + j)
          · rw [if_pos h3, decide_eq_false (show ¬ tmN fig p (fp + j) < q by omega), if_neg (by simp)]; rfl
          · rw [if_neg h3, decide_eq_true (show tmN fig p (fp + j) < q by omega), if_pos (by simp)]
  rw [lp_first (step := m_X4_followingFigure_L12 v u w7) (fun j => nI (fp + j)) (fun j => okF A S h q b pr fig p (fp + j)) (fun j => .inr (nI (fp + j))) (.inl (nI (A 0 1))) (A 0 1 - fp)]
  · cases firstN (fun j => okF A S h q b pr fig p (fp + j)) (A 0 1 - fp) <;> rfl
  · intro j hj hg
    rw [hst j hj, hg, if_neg (by simp)]
  · intro j hj hg
    rw [hst j hj, hg, if_pos rfl]
  · unfold m_X4_followingFigure_L12
    rw [hR.n (j := 1) (by omega), show fp + (A 0 1 - fp) = A 0 1 by omega, if_pos (nI_le (Nat.le_refl _) (by omega))]
