/-! ===== PURE: the walk goes on ===== -/
theorem allN_congr {f g : Nat → Bool} : ∀ n, (∀ k, k < n → f k = g k) → allN f n = allN g n := by
  intro n
  induction n with
  | zero => intro _; rfl
  | succ n ih => intro e; simp only [allN]; rw [ih (fun k hk => e k (by omega)), e n (by omega)]
theorem okS_c {A S : AS} {w7 w : SV} {h p s : Nat} {f g : Nat → Nat} (hW : WF A) (hS : RepN w7 w S A) (hh : h ≤ S 0 0) (e : ∀ i, i < p → f i = g i) : okS A S h f p s = okS A S h g p s := by
  unfold okS
  congr 1
  · refine allN_congr _ (fun b hb => ?_)
    have h1 := mn_lt (hW.2.2 b hb).2.2
    unfold okB
    by_cases hc : mxN (A 14 b) (A 15 b) = p
    · rw [e (mnN (A 14 b) (A 15 b)) (by omega)]
    · rw [decide_eq_false hc]; simp
  · refine allN_congr _ (fun k hk => ?_)
    obtain ⟨-, -, -, -, -, -, -, -, l3⟩ := hS.2.2.2 k (by omega)
    have h1 := mn_lt l3
    unfold okN
    by_cases hc : mxN (S 1 k) (S 2 k) = p
    · rw [e (mnN (S 1 k) (S 2 k)) (by omega)]
    · rw [decide_eq_false hc]; simp
theorem tmN_c {f g : Nat → Nat} {p s : Nat} (e : ∀ i, i < p → f i = g i) : tmN f p s = tmN g p s := sumN_congr p (fun i hi => by rw [e i hi])
theorem spN_c {pr : Nat → Nat → Nat} {f g : Nat → Nat} {p : Nat} (e : ∀ i, i < p → f i = g i) : spN pr f p = spN pr g p := sumN_congr p (fun i hi => by rw [e i hi])
theorem okT_c {A : AS} {q : Nat} {f g : Nat → Nat} {p s : Nat} (e : ∀ i, i < p → f i = g i) : okT A q f p s = okT A q g p s := by
  unfold okT
  rw [tmN_c e]
theorem sumN_mono {f : Nat → Nat} {a : Nat} : ∀ b, a ≤ b → sumN f a ≤ sumN f b := by
  intro b
  induction b with
  | zero => intro h; rw [show a = 0 by omega]; exact Nat.le_refl _
  | succ b ih =>
    intro h
    by_cases hab : a = b + 1
    · rw [hab]; exact Nat.le_refl _
    · have := ih (by omega); rw [sumN]; omega
/-- a picture (of the first D parts) that the walk stops at -/
def okC (A S : AS) (h q b D : Nat) (pr : Nat → Nat → Nat) (c : Nat) : Prop := (∀ i, i < D → okS A S h (dg (A 0 1) D c) i (dg (A 0 1) D c i) = true ∧ okT A q (dg (A 0 1) D c) i (dg (A 0 1) D c i) = true) ∧ spN pr (dg (A 0 1) D c) D < b
theorem excl {A S : AS} {w7 w : SV} {h q b D p fp m : Nat} {pr : Nat → Nat → Nat} {fig : Nat → Nat} (hW : WF A) (hS : RepN w7 w S A) (hh : h ≤ S 0 0) (hp : p < D) (hf : ∀ i, i < p → fig i < A 0 1) (hm : m ≤ A 0 1) (hno : ∀ s, fp ≤ s → s < m → okF A S h q b pr fig p s = false) (c : Nat) (h1 : (nuN (A 0 1) fig p * A 0 1 + fp) * A 0 1 ^ (D - 1 - p) ≤ c) (h2 : c < (nuN (A 0 1) fig p * A 0 1 + m) * A 0 1 ^ (D - 1 - p)) (hc : c < A 0 1 ^ D) : ¬ okC A S h q b D pr c := by
  intro ⟨g1, g2⟩
  have hn0 : 0 < A 0 1 := by
    cases hz : A 0 1 with
    | zero => rw [hz, Nat.zero_pow (by omega)] at hc; omega
    | succ k => omega
  have hpow : 0 < A 0 1 ^ (D - 1 - p) := Nat.pow_pos hn0
  have x1 : nuN (A 0 1) fig p * A 0 1 + fp ≤ c / A 0 1 ^ (D - 1 - p) := (Nat.le_div_iff_mul_le hpow).mpr h1
  have x2 : c / A 0 1 ^ (D - 1 - p) < nuN (A 0 1) fig p * A 0 1 + m := (Nat.div_lt_iff_lt_mul hpow).mpr h2
  have e : prf (A 0 1) D c (p + 1) = nuN (A 0 1) fig p * A 0 1 + (c / A 0 1 ^ (D - 1 - p) - nuN (A 0 1) fig p * A 0 1) := by
    unfold prf
    rw [show D - (p + 1) = D - 1 - p by omega]
    omega
  obtain ⟨d1, d2⟩ := dg_of hc hp hf (by omega) e
  have hsN := hno (c / A 0 1 ^ (D - 1 - p) - nuN (A 0 1) fig p * A 0 1) (by omega) (by omega)
  obtain ⟨k1, k2⟩ := g1 p hp
  rw [d1, okS_c hW hS hh d2] at k1
  rw [d1, okT_c d2] at k2
  have hmo := sumN_mono (f := fun j => pr j (dg (A 0 1) D c j)) (a := p + 1) D (by omega)
  have hsp : spN pr fig p + pr p (c / A 0 1 ^ (D - 1 - p) - nuN (A 0 1) fig p * A 0 1) < b := by
    have e1 : spN pr (dg (A 0 1) D c) p = spN pr fig p := spN_c d2
    unfold spN at g2 e1 ⊢
    rw [sumN, e1, d1] at hmo
    omega
  unfold okF at hsN
  rw [k1, k2, decide_eq_true hsp] at hsN
  cases hsN
def Kw (n : Nat) : Nat → Nat
  | 0 => 1
  | d + 1 => n * Kw n d + 2
def RemN (n D : Nat) (fig : Nat → Nat) (p fp : Nat) : Nat := sumN (fun i => (n - 1 - fig i) * Kw n (D - 1 - i) + 1) p + ((n - fp) * Kw n (D - 1 - p) + 1)
theorem Rem_0 : ∀ n, n < 6 → ∀ D, D < 7 → 1 ≤ D → RemN n D (fun _ => 0) 0 0 ≤ 30000 := by decide +kernel
theorem Rem_0' {n D : Nat} (hn : n < 6) (hD : D < 7) (h1 : 1 ≤ D) (fig : Nat → Nat) : RemN n D fig 0 0 ≤ 30000 := Rem_0 n hn D hD h1
def fgN (fig : Nat → Nat) (p s : Nat) : Nat → Nat := fun i => if i = p then s else fig i
theorem fgN_p (fig : Nat → Nat) (p s : Nat) : fgN fig p s p = s := if_pos rfl
theorem fgN_i {fig : Nat → Nat} {p s i : Nat} (h : i ≠ p) : fgN fig p s i = fig i := if_neg h
/-- what the walk has when it stops at a picture of the first D parts -/
def AdvT (A S : AS) (h q b D : Nat) (pr : Nat → Nat → Nat) (v : SV) (fig : Nat → Nat) : Prop := WC v A h q b D pr ∧ WQ v A S h pr (D - 1) fig (fig (D - 1) + 1) ∧ (∀ i, i < D → v 8 i = nI (fig i) ∧ fig i < A 0 1) ∧ (∀ i, i < D → okS A S h fig i (fig i) = true ∧ okT A q fig i (fig i) = true) ∧ v 10 D = nI (spN pr fig D) ∧ spN pr fig D < b
theorem adv_L {u w7 w : SV} {A S : AS} {h q b D : Nat} {pr : Nat → Nat → Nat} (hR : RepC u A) (hW : WF A) (hS : RepN w7 w S A) (hh : h ≤ S 0 0) (hq : q ≤ 6) (hb : b ≤ 1000) (hpr : ∀ p s, pr p s ≤ 81) (hD1 : 1 ≤ D) (hD : D ≤ A 0 0) : ∀ M turn v p fig fp, RemN (A 0 1) D fig p fp ≤ M → turn + M < 1000000 → WC v A h q b D pr → WQ v A S h pr p fig fp → p < D → fp ≤ A 0 1 → (∀ i, i < p → okS A S h fig i (fig i) = true ∧ okT A q fig i (fig i) = true) → ∃ r, lpC (m_X4_advance_L2 u w7) (nI turn, v) = some r ∧ ((∃ t' v', r = .inl (t', v') ∧ WC v' A h q b D pr ∧ ∀ c, (nuN (A 0 1) fig p * A 0 1 + fp) * A 0 1 ^ (D - 1 - p) ≤ c → c < A 0 1 ^ D → ¬ okC A S h q b D pr c) ∨ (∃ v' fig', r = .inr ((1 : Int32), v') ∧ AdvT A S h q b D pr v' fig' ∧ (nuN (A 0 1) fig p * A 0 1 + fp) * A 0 1 ^ (D - 1 - p) ≤ nuN (A 0 1) fig' D ∧ (∀ c, (nuN (A 0 1) fig p * A 0 1 + fp) * A 0 1 ^ (D - 1 - p) ≤ c → c < nuN (A 0 1) fig' D → ¬ okC A S h q b D pr c) ∧ RemN (A 0 1) D fig' (D - 1) (fig' (D - 1) + 1) < RemN (A 0 1) D fig p fp)) := by
  have hn := hW.1.n
  intro M
  induction M with
  | zero => intro turn v p fig fp hM; unfold RemN at hM; omega
  | succ M ih =>
    intro turn v p fig fp hM ht hC hQ hp hfp hok
    have hC0 := hC
    have hQ0 := hQ
    obtain ⟨c2, c3, c4, c6, c7, c11, c10⟩ := hC
    obtain ⟨s5, s8, s8p, s9, s10⟩ := hQ
    have hfo := following_s (u := u) w7 hR hW hC0 hQ0 (by omega) hfp hq hb hpr
    have hf8 : ∀ i, i < p → fig i < A 0 1 := fun i hi => (s8 i hi).2
    cases hfn : firstN (fun j => okF A S h q b pr fig p (fp + j)) (A 0 1 - fp) with
    | none =>
      have hno := firstN_none hfn
      rw [hfn] at hfo
      have hst : m_X4_advance_L2 u w7 (nI turn, v) = some (.inl (nI (turn + 1), up2 v 0 5 (nI p + (-1)))) := by
        unfold m_X4_advance_L2
        dsimp +instances only
        rw [show (1000000 : Int32) = nI 1000000 from rfl, if_neg (nI_ge (by omega) (by omega)), if_neg (show ¬ v 0 5 < 0 by rw [s5]; exact nI_pos (by omega)), hfo]
        show (some (oI none)).bind _ = _
        rw [some_bind, if_pos (show oI none = -4 from rfl), lett_eq, s5, nI_1, Int32.sub_eq_add_neg]
      have hnos : ∀ s, fp ≤ s → s < A 0 1 → okF A S h q b pr fig p s = false := fun s h1 h2 => by
        have := hno (s - fp) (by omega)
        rw [show fp + (s - fp) = s by omega] at this
        exact this
      have hC' : WC (up2 v 0 5 (nI p + (-1))) A h q b D pr := by
        unfold WC
        rw [up2_si (by decide), up2_si (by decide), up2_si (by decide), up2_si (by decide), up2_n (by decide), up2_n (by decide), up2_n (by decide)]
        exact hC0
      cases p with
      | zero =>
        refine ⟨.inl (nI (turn + 1), up2 v 0 5 (nI 0 + (-1))), ?_, .inl ⟨_, _, rfl, hC', fun c h1 h2 => ?_⟩⟩
        · rw [lp_next hst]
          refine lp_done ?_
          unfold m_X4_advance_L2
          dsimp +instances only
          by_cases hle : (1000000 : Int32) ≤ nI (turn + 1)
          · rw [if_pos hle]
          · rw [if_neg hle, if_pos (show up2 v 0 5 (nI 0 + (-1)) 0 5 < 0 by rw [up2_ss]; decide)]
        · refine excl hW hS hh hp hf8 (Nat.le_refl _) hnos c h1 ?_ h2
          rw [show nuN (A 0 1) fig 0 = 0 from rfl, Nat.zero_mul, Nat.zero_add, Nat.mul_comm, ← Nat.pow_succ, show (D - 1 - 0).succ = D by omega]
          exact h2
      | succ p' =>
        have e5 : nI (p' + 1) + (-1) = nI p' := sb_m1 (by omega)
        rw [e5] at hst hC'
        obtain ⟨e8, hf9⟩ := s8 p' (by omega)
        have hQ' : WQ (up2 v 0 5 (nI p')) A S h pr p' fig (fig p' + 1) := by
          unfold WQ
          rw [up2_ss, up2_n (by decide), up2_n (by decide), up2_n (by decide)]
          exact ⟨rfl, fun i hi => s8 i (by omega), by rw [e8, nI_1], fun i hi => s9 i (by omega), fun i hi => s10 i (by omega)⟩
        have hRem : RemN (A 0 1) D fig p' (fig p' + 1) ≤ M := by
          have : RemN (A 0 1) D fig p' (fig p' + 1) + 1 ≤ RemN (A 0 1) D fig (p' + 1) fp := by
            unfold RemN
            rw [sumN, show A 0 1 - (fig p' + 1) = A 0 1 - 1 - fig p' by omega]
            omega
          omega
        have hRem2 : RemN (A 0 1) D fig p' (fig p' + 1) < RemN (A 0 1) D fig (p' + 1) fp := by
          unfold RemN
          rw [sumN, show A 0 1 - (fig p' + 1) = A 0 1 - 1 - fig p' by omega]
          omega
        obtain ⟨r, hr, hpost⟩ := ih (turn + 1) (up2 v 0 5 (nI p')) p' fig (fig p' + 1) hRem (by omega) hC' hQ' (by omega) (by omega) (fun i hi => hok i (by omega))
        have hFr : (nuN (A 0 1) fig p' * A 0 1 + (fig p' + 1)) * A 0 1 ^ (D - 1 - p') = (nuN (A 0 1) fig (p' + 1) * A 0 1 + A 0 1) * A 0 1 ^ (D - 1 - (p' + 1)) := by
          rw [show D - 1 - p' = D - 1 - (p' + 1) + 1 by omega, Nat.pow_succ, Nat.mul_comm (A 0 1 ^ (D - 1 - (p' + 1))), ← Nat.mul_assoc, nuN, ← Nat.succ_mul]
          rfl
        have hFle : (nuN (A 0 1) fig (p' + 1) * A 0 1 + fp) * A 0 1 ^ (D - 1 - (p' + 1)) ≤ (nuN (A 0 1) fig (p' + 1) * A 0 1 + A 0 1) * A 0 1 ^ (D - 1 - (p' + 1)) := Nat.mul_le_mul_right _ (by omega)
        have hex : ∀ c, (nuN (A 0 1) fig (p' + 1) * A 0 1 + fp) * A 0 1 ^ (D - 1 - (p' + 1)) ≤ c → c < (nuN (A 0 1) fig p' * A 0 1 + (fig p' + 1)) * A 0 1 ^ (D - 1 - p') → c < A 0 1 ^ D → ¬ okC A S h q b D pr c := by
          intro c h1 h2 h3
          rw [hFr] at h2
          exact excl hW hS hh hp hf8 (Nat.le_refl _) hnos c h1 h2 h3
        refine ⟨r, by rw [lp_next hst]; exact hr, ?_⟩
        rcases hpost with ⟨t', v', q1, q2, q3⟩ | ⟨v', fig', q1, q2, q3, q4, q5⟩
        · refine .inl ⟨t', v', q1, q2, fun c h1 h2 => ?_⟩
          by_cases hlt : c < (nuN (A 0 1) fig p' * A 0 1 + (fig p' + 1)) * A 0 1 ^ (D - 1 - p')
          · exact hex c h1 hlt h2
          · exact q3 c (by omega) h2
        · refine .inr ⟨v', fig', q1, q2, by omega, fun c h1 h2 => ?_, by omega⟩
          have hlD : nuN (A 0 1) fig' D < A 0 1 ^ D := nuN_lt D (fun i hi => (q2.2.2.1 i hi).2)
          by_cases hlt : c < (nuN (A 0 1) fig p' * A 0 1 + (fig p' + 1)) * A 0 1 ^ (D - 1 - p')
          · exact hex c h1 hlt (by omega)
          · exact q4 c (by omega) h2
    | some j =>
      obtain ⟨hj, hgj, hno⟩ := firstN_some hfn
      rw [hfn] at hfo
      have hnos : ∀ s, fp ≤ s → s < fp + j → okF A S h q b pr fig p s = false := fun s h1 h2 => by
        have := hno (s - fp) (by omega)
        rw [show fp + (s - fp) = s by omega] at this
        exact this
      generalize hsj : fp + j = s at hnos hgj
      have hs : s < A 0 1 := by omega
      have hfo' : m_X4_followingFigure v u w7 = some (nI s) := by rw [hfo, ← hsj]; rfl
      unfold okF at hgj
      simp only [Bool.and_eq_true, decide_eq_true_eq] at hgj
      obtain ⟨k1, k2, k3⟩ := hgj
      have hfg : ∀ i, i < p → fgN fig p s i = fig i := fun i hi => fgN_i (by omega)
      have hsp1 : spN pr (fgN fig p s) (p + 1) = spN pr fig p + pr p s := by
        have := spN_c (pr := pr) hfg
        unfold spN at this ⊢
        rw [sumN, this, fgN_p]
      have hok' : ∀ i, i < p + 1 → okS A S h (fgN fig p s) i (fgN fig p s i) = true ∧ okT A q (fgN fig p s) i (fgN fig p s i) = true := by
        intro i hi
        by_cases hip : i = p
        · subst hip
          rw [fgN_p, okS_c hW hS hh hfg, okT_c hfg]
          exact ⟨k1, k3⟩
        · have hfi : ∀ k, k < i → fgN fig p s k = fig k := fun k hk => fgN_i (by omega)
          rw [fgN_i hip, okS_c hW hS hh hfi, okT_c hfi]
          exact hok i (by omega)
      have hnu : nuN (A 0 1) (fgN fig p s) (p + 1) = nuN (A 0 1) fig p * A 0 1 + s := by
        rw [nuN, nuN_congr p hfg, fgN_p]
      -- the state behind the pick
      generalize hv1 : up2 (up2 v 8 p (nI s)) 10 (p + 1) (nI (spN pr (fgN fig p s) (p + 1))) = v1
      have o1 : ∀ r, r ≠ 8 → r ≠ 10 → v1 r = v r := fun r h8 h10 => by rw [← hv1, up2_n h10, up2_n h8]
      have o8 : ∀ i, v1 8 i = if i = p then nI s else v 8 i := fun i => by rw [← hv1, up2_n (by decide), up2_v]
      have o10 : ∀ i, v1 10 i = if i = p + 1 then nI (spN pr (fgN fig p s) (p + 1)) else v 10 i := fun i => by rw [← hv1, up2_v, up2_n (by decide)]
      have hC1 : WC v1 A h q b D pr := by
        unfold WC
        rw [o1 0 (by decide) (by decide), o1 7 (by decide) (by decide), o1 11 (by decide) (by decide), o10, if_neg (by omega)]
        exact hC0
      have h81 : ∀ i, i < p + 1 → v1 8 i = nI (fgN fig p s i) ∧ fgN fig p s i < A 0 1 := by
        intro i hi
        rw [o8]
        by_cases hip : i = p
        · subst hip; rw [if_pos rfl, fgN_p]; exact ⟨rfl, hs⟩
        · rw [if_neg hip, fgN_i hip]; exact s8 i (by omega)
      have h101 : ∀ i, i ≤ p + 1 → v1 10 i = nI (spN pr (fgN fig p s) i) := by
        intro i hi
        rw [o10]
        by_cases hip : i = p + 1
        · subst hip; rw [if_pos rfl]
        · rw [if_neg hip, s10 i (by omega), spN_c (fun k hk => fgN_i (by omega))]
      have haw : ∀ i, i ≤ p → awM A S h (fgN fig p s) i = awM A S h fig i := by
        intro i hi
        unfold awM
        refine orN_congr _ (fun k _ => ?_)
        exact okS_c hW hS hh (fun k hk => fgN_i (by omega))
      have hstep : m_X4_advance_L2 u w7 (nI turn, v) = if p = D - 1 then some (.inr (.inr ((1 : Int32), v1))) else (m_X4_open v1 u w7 (nI (p + 1))).bind (fun y105 => some (.inl (nI (turn + 1), y105))) := by
        unfold m_X4_advance_L2
        dsimp +instances only
        rw [show (1000000 : Int32) = nI 1000000 from rfl, if_neg (nI_ge (by omega) (by omega)), if_neg (show ¬ v 0 5 < 0 by rw [s5]; exact nI_pos (by omega)), hfo', some_bind, if_neg (show ¬ nI s = -4 by show ¬ oI (some s) = -4; rw [oI_m4 (fun t ht => by cases ht; omega)]; simp)]
        simp only [lett_eq]
        rw [show up2 v 8 (v 0 5).toNatClampNeg (nI s) 0 5 = nI p from by rw [up2_n (by decide), s5], s5, inB_nI (by omega) (by omega), ck_true, nI_clamp (by omega), inB_nI (by omega) (by omega), ck_true, li_5, pk_mul, nI_add, inB_nI (by omega) (by omega), ck_true, nI_1, inB_nI (by omega) (by omega), ck_true, nI_clamp (by omega), nI_clamp (by omega), up2_n (show 10 ≠ 8 by decide), up2_n (show 11 ≠ 8 by decide), s10 p (Nat.le_refl _), c11 p (by omega) s hs, nI_add, ← hsp1, hv1, nI_1]
        rw [o1 0 (by decide) (by decide), s5, c6, show (1 : Int32) = nI 1 from rfl, pk_sub (by omega), ifp (cast_eq (by omega) (by omega)), nI_add]
      by_cases hpD : p = D - 1
      · rw [if_pos hpD] at hstep
        have hpD1 : p + 1 = D := by omega
        have hpow : A 0 1 ^ (D - 1 - p) = 1 := by rw [hpD, Nat.sub_self, Nat.pow_zero]
        refine ⟨_, lp_done hstep, .inr ⟨v1, fgN fig p s, rfl, ⟨hC1, ?_, fun i hi => h81 i (by omega), fun i hi => hok' i (by omega), ?_, ?_⟩, ?_, ?_, ?_⟩⟩
        · rw [← hpD, fgN_p]
          refine ⟨by rw [o1 0 (by decide) (by decide), s5], fun i hi => h81 i (by omega), by rw [o8, if_pos rfl, nI_1], fun i hi => by rw [o1 9 (by decide) (by decide), haw i hi]; exact s9 i hi, fun i hi => h101 i (by omega)⟩
        · rw [← hpD1]; exact h101 (p + 1) (Nat.le_refl _)
        · rw [← hpD1, hsp1]; exact k2
        · rw [hpow, Nat.mul_one, ← hpD1, hnu]; omega
        · intro c h1 h2
          have hlD : nuN (A 0 1) (fgN fig p s) D < A 0 1 ^ D := nuN_lt D (fun i hi => (h81 i (by omega)).2)
          refine excl hW hS hh hp hf8 (m := s) (by omega) hnos c h1 ?_ (by omega)
          rw [hpow, Nat.mul_one, ← hnu, hpD1]
          exact h2
        · have hs0 := sumN_congr (f := fun i => (A 0 1 - 1 - fgN fig p s i) * Kw (A 0 1) (D - 1 - i) + 1) (g := fun i => (A 0 1 - 1 - fig i) * Kw (A 0 1) (D - 1 - i) + 1) p (fun i hi => by rw [hfg i hi])
          unfold RemN
          rw [← hpD, fgN_p]
          rw [← hpD] at hs0
          rw [hs0, Nat.sub_self]
          show sumN _ p + ((A 0 1 - (s + 1)) * 1 + 1) < sumN _ p + ((A 0 1 - fp) * 1 + 1)
          omega
      · rw [if_neg hpD] at hstep
        have hop := open_s (v := v1) (h := h) (S := S) (fig := fgN fig p s) (p := p + 1) hR hW hS hh hC1.1 hC1.2.2.2.2.1 h81 (by omega)
        rw [hop, some_bind] at hstep
        generalize hv2 : up2 (up2 (up2 v1 0 5 (nI (p + 1))) 8 (p + 1) (-1)) 9 (p + 1) (nI (awM A S h (fgN fig p s) (p + 1))) = v2 at hstep
        have hC2 : WC v2 A h q b D pr := by
          rw [← hv2]
          unfold WC
          rw [up2_n (show 0 ≠ 9 by decide), up2_n (show 0 ≠ 8 by decide), up2_si (by decide), up2_si (by decide), up2_si (by decide), up2_si (by decide), up2_n (show 7 ≠ 9 by decide), up2_n (show 7 ≠ 8 by decide), up2_n (show 7 ≠ 0 by decide), up2_n (show 11 ≠ 9 by decide), up2_n (show 11 ≠ 8 by decide), up2_n (show 11 ≠ 0 by decide), up2_n (show 10 ≠ 9 by decide), up2_n (show 10 ≠ 8 by decide), up2_n (show 10 ≠ 0 by decide)]
          exact hC1
        have hQ2 : WQ v2 A S h pr (p + 1) (fgN fig p s) 0 := by
          rw [← hv2]
          unfold WQ
          rw [up2_n (show 0 ≠ 9 by decide), up2_n (show 0 ≠ 8 by decide), up2_ss, up2_n (show 8 ≠ 9 by decide), up2_n (show 10 ≠ 9 by decide), up2_n (show 10 ≠ 8 by decide), up2_n (show 10 ≠ 0 by decide), up2_ss]
          refine ⟨rfl, fun i hi => by rw [up2_si (by omega), up2_n (by decide)]; exact h81 i hi, by decide, fun i hi => ?_, fun i hi => h101 i hi⟩
          by_cases hip : i = p + 1
          · subst hip; rw [up2_ss]
          · rw [up2_si hip, up2_n (by decide), up2_n (by decide), o1 9 (by decide) (by decide), haw i (by omega)]; exact s9 i (by omega)
        have hRem : RemN (A 0 1) D (fgN fig p s) (p + 1) 0 < RemN (A 0 1) D fig p fp := by
          have hs0 := sumN_congr (f := fun i => (A 0 1 - 1 - fgN fig p s i) * Kw (A 0 1) (D - 1 - i) + 1) (g := fun i => (A 0 1 - 1 - fig i) * Kw (A 0 1) (D - 1 - i) + 1) p (fun i hi => by rw [hfg i hi])
          unfold RemN
          rw [sumN, hs0, fgN_p, show D - 1 - p = D - 1 - (p + 1) + 1 by omega, Nat.sub_zero]
          generalize hkk : Kw (A 0 1) (D - 1 - (p + 1)) = kk
          have hkv : Kw (A 0 1) (D - 1 - (p + 1) + 1) = A 0 1 * kk + 2 := by rw [Kw, hkk]
          rw [hkv]
          have hx : (A 0 1 - 1 - s + 1) * (A 0 1 * kk + 2) ≤ (A 0 1 - fp) * (A 0 1 * kk + 2) := Nat.mul_le_mul_right _ (by omega)
          rw [Nat.succ_mul] at hx
          omega
        obtain ⟨r, hr, hpost⟩ := ih (turn + 1) v2 (p + 1) (fgN fig p s) 0 (by omega) (by omega) hC2 hQ2 (by omega) (by omega) hok'
        have hFr : (nuN (A 0 1) (fgN fig p s) (p + 1) * A 0 1 + 0) * A 0 1 ^ (D - 1 - (p + 1)) = (nuN (A 0 1) fig p * A 0 1 + s) * A 0 1 ^ (D - 1 - p) := by
          rw [Nat.add_zero, hnu, show D - 1 - p = D - 1 - (p + 1) + 1 by omega, Nat.pow_succ, Nat.mul_comm (A 0 1 ^ (D - 1 - (p + 1))), ← Nat.mul_assoc]
        have hFle : (nuN (A 0 1) fig p * A 0 1 + fp) * A 0 1 ^ (D - 1 - p) ≤ (nuN (A 0 1) fig p * A 0 1 + s) * A 0 1 ^ (D - 1 - p) := Nat.mul_le_mul_right _ (by omega)
        have hex : ∀ c, (nuN (A 0 1) fig p * A 0 1 + fp) * A 0 1 ^ (D - 1 - p) ≤ c → c < (nuN (A 0 1) fig p * A 0 1 + s) * A 0 1 ^ (D - 1 - p) → c < A 0 1 ^ D → ¬ okC A S h q b D pr c := fun c h1 h2 h3 => excl hW hS hh hp hf8 (m := s) (by omega) hnos c h1 h2 h3
        rw [hFr] at hpost
        refine ⟨r, by rw [lp_next hstep]; exact hr, ?_⟩
        rcases hpost with ⟨t', v', q1, q2, q3⟩ | ⟨v', fig', q1, q2, q3, q4, q5⟩
        · refine .inl ⟨t', v', q1, q2, fun c h1 h2 => ?_⟩
          by_cases hlt : c < (nuN (A 0 1) fig p * A 0 1 + s) * A 0 1 ^ (D - 1 - p)
          · exact hex c h1 hlt h2
          · exact q3 c (by omega) h2
        · refine .inr ⟨v', fig', q1, q2, by omega, fun c h1 h2 => ?_, by omega⟩
          have hlD : nuN (A 0 1) fig' D < A 0 1 ^ D := nuN_lt D (fun i hi => (q2.2.2.1 i hi).2)
          by_cases hlt : c < (nuN (A 0 1) fig p * A 0 1 + s) * A 0 1 ^ (D - 1 - p)
          · exact hex c h1 hlt (by omega)
          · exact q4 c (by omega) h2
