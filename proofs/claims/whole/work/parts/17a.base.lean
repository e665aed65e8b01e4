/-! ===== PURE: numbers, loops ===== -/
theorem lit_nI (n : Nat) : (OfNat.ofNat n : Int32) = nI n := Int32.toInt_inj.mp rfl
theorem inB_nI {a n : Nat} (h : a < n) (hn : n < 2 ^ 31) : inB (nI a) n = true := inB_of (by rw [nI_toInt (by omega)]; omega) (by rw [nI_toInt (by omega)]; omega)
theorem ck_true {α : Type} (k : Option α) : ck true k = k := Eq.trans (b := k) rfl rfl
theorem some_bind {α β : Type} (a : α) (f : α → Option β) : (some a).bind f = f a := Eq.trans (b := f a) rfl rfl
theorem lett_eq {α β : Type} (a : α) (f : α → β) : lett a f = f a := Eq.trans (b := f a) rfl rfl
theorem lp_next {σ ρ : Type} {step : σ → Option (σ ⊕ ρ)} {s s' : σ} (h : step s = some (.inl s')) : lpC step s = lpC step s' := by rw [lpC_eq, h]; rfl
theorem lp_done {σ ρ : Type} {step : σ → Option (σ ⊕ ρ)} {s : σ} {r : ρ} (h : step s = some (.inr r)) : lpC step s = some r := by rw [lpC_eq, h]; rfl
theorem lp_for {σ ρ : Type} {step : σ → Option (σ ⊕ ρ)} (f : Nat → σ) : ∀ (N : Nat), (∀ k, k < N → step (f k) = some (.inl (f (k + 1)))) → lpC step (f 0) = lpC step (f N) := by
  intro N
  induction N with
  | zero => intro _; rfl
  | succ n ih => intro h; rw [ih (fun k hk => h k (by omega)), lp_next (h n (by omega))]
theorem lp_run {σ ρ : Type} {step : σ → Option (σ ⊕ ρ)} (f : Nat → σ) (N : Nat) {r : ρ} (hs : ∀ k, k < N → step (f k) = some (.inl (f (k + 1)))) (he : step (f N) = some (.inr r)) : lpC step (f 0) = some r := by rw [lp_for f N hs, lp_done he]
/-- from place a on -/
theorem lp_runA {σ ρ : Type} {step : σ → Option (σ ⊕ ρ)} (f : Nat → σ) (a N : Nat) (ha : a ≤ N) {r : ρ} (hs : ∀ k, a ≤ k → k < N → step (f k) = some (.inl (f (k + 1)))) (he : step (f N) = some (.inr r)) : lpC step (f a) = some r := by
  have := lp_run (step := step) (fun k => f (a + k)) (N - a) (r := r) (fun k hk => hs (a + k) (by omega) (by omega)) (by rw [show a + (N - a) = N by omega]; exact he)
  exact this
def sumN (f : Nat → Nat) : Nat → Nat
  | 0 => 0
  | n + 1 => sumN f n + f n
theorem sumN_le {f : Nat → Nat} {b : Nat} (h : ∀ k, f k ≤ b) : ∀ n, sumN f n ≤ n * b := by
  intro n
  induction n with
  | zero => simp [sumN]
  | succ n ih => rw [sumN, Nat.succ_mul]; have := h n; omega
theorem sumN_leN {f : Nat → Nat} {b : Nat} : ∀ n, (∀ k, k < n → f k ≤ b) → sumN f n ≤ n * b := by
  intro n
  induction n with
  | zero => intro _; simp [sumN]
  | succ n ih => intro h; rw [sumN, Nat.succ_mul]; have := h n (by omega); have := ih (fun k hk => h k (by omega)); omega
theorem sumN_congr {f g : Nat → Nat} : ∀ n, (∀ k, k < n → f k = g k) → sumN f n = sumN g n := by
  intro n
  induction n with
  | zero => intro _; rfl
  | succ n ih => intro h; rw [sumN, sumN, ih (fun k hk => h k (by omega)), h n (by omega)]
def itn {α : Type} (g : Nat → α → α) (a : α) : Nat → α
  | 0 => a
  | n + 1 => g n (itn g a n)
theorem cast_lt {a b : Nat} (ha : a < 2 ^ 31) (hb : b < 2 ^ 31) : (nI a < nI b) = (a < b) := propext (nI_ltI ha hb)
theorem cast_le {a b : Nat} (ha : a < 2 ^ 31) (hb : b < 2 ^ 31) : (nI a ≤ nI b) = (a ≤ b) := propext (nI_leI ha hb)
theorem cast_eq {a b : Nat} (ha : a < 2 ^ 31) (hb : b < 2 ^ 31) : (nI a = nI b) = (a = b) := propext (nI_eq ha hb)
/-- an outcome that may be nobody -/
def oI : Option Nat → Int32
  | none => -4
  | some s => nI s
theorem oI_m4 {o : Option Nat} (h : ∀ s, o = some s → s < 2 ^ 31) : (oI o = -4) = (o = none) := by
  cases o with
  | none => simp [oI]
  | some s =>
    have hs := h s rfl
    refine propext ⟨fun e => ?_, fun e => by cases e⟩
    have h1 := congrArg Int32.toInt e
    rw [show oI (some s) = nI s from rfl, nI_toInt hs] at h1
    rw [show ((-4 : Int32)).toInt = -4 from by decide] at h1
    omega
