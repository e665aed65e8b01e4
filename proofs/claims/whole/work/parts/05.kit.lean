def pcR (D : va_G) (q : Nat → ClassId) (W : va_W) (av : List Value) : Array Value → State → Prop := va_Pc av (fun U => va_P D cls W U.heap ∧ va_K D cls (tyq q) U)
def pcW (D : va_G) (q : Nat → ClassId) (W : va_W) (sz : Nat) (av : List Value) : Array Value → State → Prop := va_Pc av (fun U => U.heap.size = sz ∧ va_P D cls W U.heap ∧ va_K D cls (tyq q) U ∧ va_D (fun _ => True) W)
def bW {S : Type} (D : va_G) (q : Nat → ClassId) (W : va_W) (sz : Nat) (Wf : S → va_W) : S → State → Prop := fun u t => va_P D cls (Wf u) t.heap ∧ va_K D cls (tyq q) t ∧ va_D (va_A W sz) (Wf u)
theorem pcR_blind {D : va_G} {q : Nat → ClassId} {W : va_W} {av : List Value} : FrameBlind (pcR D q W av) := fun a U g mk h => by
  obtain ⟨h0, qP, qK⟩ := h
  exact ⟨h0, qP, va_K.moved (u := U) (U := U.calling g mk a) (Vm.Alike.refl U.vm) qK⟩
theorem pcW_blind {D : va_G} {q : Nat → ClassId} {W : va_W} {sz : Nat} {av : List Value} : FrameBlind (pcW D q W sz av) := fun a U g mk h => by
  obtain ⟨h0, hz, qP, qK, qD⟩ := h
  exact ⟨h0, hz, qP, va_K.moved (u := U) (U := U.calling g mk a) (Vm.Alike.refl U.vm) qK, qD⟩
theorem sub_of_map {ws w : va_W} {is : List Nat} (h : is.map (fun i => ws[i]?) = w.map some) : is.filterMap (fun i => ws[i]?) = w := by
  have : is.filterMap (fun i => ws[i]?) = (is.map (fun i => ws[i]?)).filterMap id := by
    rw [List.filterMap_map]; rfl
  rw [this, h, List.filterMap_map]
  simp
/-! ===== the equation of a pure tree ===== -/
theorem tp {c : Prop} [Decidable c] {α : Type} {a b r : α} (h : (if c then a else b) = r) (hc : c) : a = r := by rwa [if_pos hc] at h
theorem tn {c : Prop} [Decidable c] {α : Type} {a b r : α} (h : (if c then a else b) = r) (hc : ¬ c) : b = r := by rwa [if_neg hc] at h
def ck {α : Type} (b : Bool) (k : Option α) : Option α := if b = true then k else none
theorem ck_t {α : Type} {b : Bool} (k : Option α) (h : b = true) : ck b k = k := by simp [ck, h]
theorem ckd {α : Type} {b : Bool} {k : Option α} {r : α} (h : ck b k = some r) : b = true ∧ k = some r := by
  unfold ck at h
  split at h
  · exact ⟨by assumption, h⟩
  · cases h
def lett {α β : Type} (a : α) (f : α → β) : β := f a
theorem ltd {α β : Type} {a : α} {f : α → β} {r : β} (h : lett a f = r) : ∃ x, x = a ∧ f x = r := ⟨a, rfl, h⟩
def inB (i : Int32) (n : Nat) : Bool := decide (0 ≤ i.toInt ∧ i.toInt < (n : Int))
theorem inB_vp {i : Int32} {n : Nat} (h : inB i n = true) : vp_in i n := vp_in_iff.mpr (of_decide_eq_true h)
theorem inB_of {i : Int32} {n : Nat} (h1 : 0 ≤ i.toInt) (h2 : i.toInt < (n : Int)) : inB i n = true := decide_eq_true ⟨h1, h2⟩
theorem bn {α β : Type} {o : Option α} {k : α → Option β} {r : β} (h : o.bind k = some r) : ∃ x, o = some x ∧ k x = some r := by
  cases o with
  | none => cases h
  | some x => exact ⟨x, rfl, h⟩
/-- a loop: step tells the next state, or the end -/
def lpO {σ ρ : Type} (step : σ → Option (σ ⊕ ρ)) : Nat → σ → Option ρ
  | 0, _ => none
  | n + 1, s => (step s).bind fun t => match t with
    | .inl s' => lpO step n s'
    | .inr r => some r
theorem lpO_mono {σ ρ : Type} {step : σ → Option (σ ⊕ ρ)} : ∀ {n : Nat} {s : σ} {r : ρ}, lpO step n s = some r → ∀ k, lpO step (n + k) s = some r := by
  intro n
  induction n with
  | zero => intro s r h; cases h
  | succ n ih =>
    intro s r h k
    rw [show n + 1 + k = (n + k) + 1 by omega]
    obtain ⟨t, ht, h⟩ := bn h
    show (step s).bind _ = some r
    rw [ht]
    cases t with
    | inl s' => exact ih h k
    | inr r' => exact h
noncomputable def lpC {σ ρ : Type} (step : σ → Option (σ ⊕ ρ)) (s : σ) : Option ρ := @dite (Option ρ) (∃ n r, lpO step n s = some r) (Classical.propDecidable _) (fun h => some (Classical.choose (Classical.choose_spec h))) (fun _ => none)
theorem lpC_of {σ ρ : Type} {step : σ → Option (σ ⊕ ρ)} {s : σ} {r : ρ} {n : Nat} (h : lpO step n s = some r) : lpC step s = some r := by
  have hex : ∃ n r, lpO step n s = some r := ⟨n, r, h⟩
  unfold lpC
  rw [dif_pos hex]
  have h2 := Classical.choose_spec (Classical.choose_spec hex)
  have a := lpO_mono h (Classical.choose hex)
  have b := lpO_mono h2 n
  rw [Nat.add_comm] at b
  rw [a] at b
  exact b.symm
theorem lpC_ex {σ ρ : Type} {step : σ → Option (σ ⊕ ρ)} {s : σ} {r : ρ} (h : lpC step s = some r) : ∃ n, lpO step n s = some r := by
  by_cases hex : ∃ n r, lpO step n s = some r
  · unfold lpC at h
    rw [dif_pos hex] at h
    have h2 := Classical.choose_spec (Classical.choose_spec hex)
    exact ⟨_, h2.trans h⟩
  · unfold lpC at h
    rw [dif_neg hex] at h
    cases h
theorem lpC_eq {σ ρ : Type} (step : σ → Option (σ ⊕ ρ)) (s : σ) : lpC step s = (step s).bind fun t => match t with
    | .inl s' => lpC step s'
    | .inr r => some r := by
  cases h : step s with
  | none =>
    show _ = none
    cases h2 : lpC step s with
    | none => rfl
    | some r =>
      obtain ⟨n, hn⟩ := lpC_ex h2
      cases n with
      | zero => cases hn
      | succ n =>
        obtain ⟨t, ht, -⟩ := bn hn
        rw [h] at ht; cases ht
  | some t =>
    cases t with
    | inr r => exact lpC_of (n := 1) (by show (step s).bind _ = _; rw [h]; rfl)
    | inl s' =>
      show _ = lpC step s'
      cases h2 : lpC step s' with
      | some r =>
        obtain ⟨n, hn⟩ := lpC_ex h2
        exact lpC_of (n := n + 1) (by show (step s).bind _ = _; rw [h]; exact hn)
      | none =>
        cases h3 : lpC step s with
        | none => rfl
        | some r =>
          obtain ⟨n, hn⟩ := lpC_ex h3
          cases n with
          | zero => cases hn
          | succ n =>
            obtain ⟨t, ht, h4⟩ := bn hn
            rw [h] at ht
            cases ht
            rw [lpC_of h4] at h2
            cases h2
/-! ===== the state of an object: row 0 its numbers by their fields, row k the contents of the array in field k ===== -/
abbrev SV : Type := Nat → Nat → Int32
def up2 (v : SV) (k i : Nat) (x : Int32) : SV := fun j => bif Nat.beq j k then upd (v k) i x else v j
def upr (v : SV) (k : Nat) (f : Nat → Int32) : SV := fun j => bif Nat.beq j k then f else v j
theorem up2_s {v : SV} {k i : Nat} {x : Int32} : up2 v k i x k = upd (v k) i x := by simp [up2]
theorem up2_n {v : SV} {k i j : Nat} {x : Int32} (h : j ≠ k) : up2 v k i x j = v j := by
  cases hb : Nat.beq j k with
  | true => exact absurd (Nat.eq_of_beq_eq_true hb) h
  | false => unfold up2; rw [hb]; rfl
theorem upr_s {v : SV} {k : Nat} {f : Nat → Int32} : upr v k f k = f := by simp [upr]
theorem upr_n {v : SV} {k j : Nat} {f : Nat → Int32} (h : j ≠ k) : upr v k f j = v j := by
  cases hb : Nat.beq j k with
  | true => exact absurd (Nat.eq_of_beq_eq_true hb) h
  | false => unfold upr; rw [hb]; rfl
def nzB (e : Int32) : Bool := decide (e = 0 ∨ e = 1)
theorem nz_nar {e : Int32} (h : nzB e = true) : narrow .boolean (.int e) = .int e := by
  rcases of_decide_eq_true h with rfl | rfl <;> decide
theorem nz_fit {e : Int32} (h : nzB e = true) : fits .boolean (.int e) = true := by
  rcases of_decide_eq_true h with rfl | rfl <;> decide
def dvB (e : Int32) : Bool := decide (¬ e = 0)
theorem dv_ne {e : Int32} (h : dvB e = true) : ¬ e = 0 := of_decide_eq_true h
def dvL (e : Int64) : Bool := decide (¬ e = 0)
theorem dvl_ne {e : Int64} (h : dvL e = true) : ¬ e = 0 := of_decide_eq_true h
def cpB (sp dp n : Int32) (n0 n1 : Nat) : Bool := decide (¬ sp < 0 ∧ ¬ dp < 0 ∧ ¬ n < 0 ∧ sp.toNatClampNeg + n.toNatClampNeg ≤ n0 ∧ dp.toNatClampNeg + n.toNatClampNeg ≤ n1)
theorem cp_ok {sp dp n : Int32} {n0 n1 : Nat} (h : cpB sp dp n n0 n1 = true) : ¬ sp < 0 ∧ ¬ dp < 0 ∧ ¬ n < 0 ∧ sp.toNatClampNeg + n.toNatClampNeg ≤ n0 ∧ dp.toNatClampNeg + n.toNatClampNeg ≤ n1 := of_decide_eq_true h
theorem wboth {D : va_G} {A : Nat → Prop} {W W' : va_W} {H : Heap} (e : W = W') (hP : va_P D cls W H) (hD : va_D A W) : va_P D cls W' H ∧ va_D A W' := by subst e; exact ⟨hP, hD⟩
section CALLS
variable {p : Program} {l : Launch} {e : Env} {R : Room} {s : State} {m : MethodId} {args : Array Value} {below : List Frame} {meth : Method} {c : Code} {H : Heap} {locs : List Loc} {cells slots : Nat} {Q : State → Prop}
variable {pc : Nat} {ls : Array Slot} {cc : ByteArray} {nL : Nat} {own : String} {D : va_G} {q : Nat → ClassId} {Wd Wc Wr : va_W} {y : MethodName} {b : ByteArray} {maxL n index ci q0 a : Nat} {ret : Option FieldType} {rm : Room} {As rest st : List Value} {rc : vw_C} {fs : List Value} {A : Nat → Prop} {H0 : Heap}
theorem fixOf (X : Cx p s m args c cc nL own D q) : CallFix p m c cc nL s args WS own := ⟨X.1, X.2.1, X.2.2.1, X.2.2.2.1, X.2.2.2.2.1⟩
theorem wOf (X : Cx p s m args c cc nL own D q) (k1 : Cond.methodLink own index y ∈ WS) (kM : MV y b maxL ret n) (hrm : rm.cells = 0 ∧ rm.slots = 0) (hR : rm.frames + 1 ≤ R.frames ∧ 8 + (maxL + 11) + rm.locals ≤ R.locals) : CallW R s args own y.cls index y b maxL ret (mw y b maxL ret) rm 0 0 n := by
  obtain ⟨k2, k3, k4, k5, kd⟩ := kM
  have hW := X.2.2.2.2.1
  exact ⟨callB_of n hW (mw_in k5) rfl hrm.1 hrm.2 (hW _ k4) (hW _ k1) kd hR, hW _ k2, hW _ k3⟩
theorem sOf (X : Cx p s m args c cc nL own D q) (k1 : Cond.methodLink own index y ∈ WS) (kM : MS y b maxL ret n) (hrm : rm.cells = 0 ∧ rm.slots = 0) (hR : rm.frames + 1 ≤ R.frames ∧ 8 + (maxL + 11) + rm.locals ≤ R.locals) : CallB R s args own index y b maxL ret (mw y b maxL ret) rm 0 0 n ∧ (Cond.static y).before args s = true := by
  obtain ⟨k2, k4, k5, kd⟩ := kM
  have hW := X.2.2.2.2.1
  exact ⟨callB_of n hW (mw_in k5) rfl hrm.1 hrm.2 (hW _ k4) (hW _ k1) kd hR, hW _ k2⟩
theorem recvOf (X : Cx p s m args c cc nL own D q) (hP : va_P D cls Wd H) (he : Wd[q0]? = some (a, .inr (ci, fs))) (hcl : cls[ci]? = some rc) (hrC : rc.1 = y.cls) : ∃ cell : Cell, H[a]? = some cell ∧ cell.vm.isStatics = false ∧ s.vm.findClass y.cls = some cell.cls := by
  rw [← hrC]
  exact va_recv X.2.2.2.2.2 hP hcl he
/-- a call of a method that only reads, with an answer of a word -/
theorem cVRi {rv : Int32} (X : Cx p s m args c cc nL own D q) (hP : va_P D cls Wd H) (hl : ls.size = nL)
    (hM : Met l y (mw y b maxL ret) rm (pcR D q Wc (.ref a :: As)) (vp_Si (fun x => x = rv)) 0 0 (fun _ => False)) (isC : List Nat) (hC : isC.map (fun i => Wd[i]?) = Wc.map some)
    (q0 : Nat) (he : Wd[q0]? = some (a, .inr (ci, fs))) (hcl : cls[ci]? = some rc) (hrC : rc.1 = y.cls) (k1 : Cond.methodLink own index y ∈ WS) (kM : MV y b maxL ret n) (hrm : rm.cells = 0 ∧ rm.slots = 0) (hR : rm.frames + 1 ≤ R.frames ∧ 8 + (maxL + 11) + rm.locals ≤ R.locals)
    (hn : As.length = n) (hst : st = As.reverse ++ .ref a :: rest) (hroom : (rest.map fun v => v.category).sum ≤ 8) (hdg : decode cc pc = .ok (.invokevirtual index, 3)) (hf : cells ≤ R.cells ∧ slots ≤ R.slots)
    (kk : W p l e R s m args below meth c H locs cells slots Q (F0 m (pc + 3) ls (.int rv :: rest))) : W p l e R s m args below meth c H locs cells slots Q (F0 m pc ls st) :=
  vp_callSi (W.runV (As := As) (rest := rest) (fixOf X) hM (wOf X k1 kM hrm hR) ⟨pcR_blind, recvOf X hP he hcl hrC, fun U hU hWm => ⟨rfl, by rw [hU]; exact hP.sub isC (sub_of_map hC), va_K.moved hWm.alike X.2.2.2.2.2⟩⟩ rfl hn hl hst (lv_room hroom) hdg hf) (fun x hx => by subst hx; exact kk)
theorem cVRl {rv : Int64} (X : Cx p s m args c cc nL own D q) (hP : va_P D cls Wd H) (hl : ls.size = nL)
    (hM : Met l y (mw y b maxL ret) rm (pcR D q Wc (.ref a :: As)) (vp_Sl (fun x => x = rv)) 0 0 (fun _ => False)) (isC : List Nat) (hC : isC.map (fun i => Wd[i]?) = Wc.map some)
    (q0 : Nat) (he : Wd[q0]? = some (a, .inr (ci, fs))) (hcl : cls[ci]? = some rc) (hrC : rc.1 = y.cls) (k1 : Cond.methodLink own index y ∈ WS) (kM : MV y b maxL ret n) (hrm : rm.cells = 0 ∧ rm.slots = 0) (hR : rm.frames + 1 ≤ R.frames ∧ 8 + (maxL + 11) + rm.locals ≤ R.locals)
    (hn : As.length = n) (hst : st = As.reverse ++ .ref a :: rest) (hroom : (rest.map fun v => v.category).sum ≤ 8) (hdg : decode cc pc = .ok (.invokevirtual index, 3)) (hf : cells ≤ R.cells ∧ slots ≤ R.slots)
    (kk : W p l e R s m args below meth c H locs cells slots Q (F0 m (pc + 3) ls (.long rv :: rest))) : W p l e R s m args below meth c H locs cells slots Q (F0 m pc ls st) :=
  vp_callSl (W.runV (As := As) (rest := rest) (fixOf X) hM (wOf X k1 kM hrm hR) ⟨pcR_blind, recvOf X hP he hcl hrC, fun U hU hWm => ⟨rfl, by rw [hU]; exact hP.sub isC (sub_of_map hC), va_K.moved hWm.alike X.2.2.2.2.2⟩⟩ rfl hn hl hst (lv_room hroom) hdg hf) (fun x hx => by subst hx; exact kk)
theorem cSRi {rv : Int32} (X : Cx p s m args c cc nL own D q) (hP : va_P D cls Wd H) (hl : ls.size = nL)
    (hM : Met l y (mw y b maxL ret) rm (pcR D q Wc As) (vp_Si (fun x => x = rv)) 0 0 (fun _ => False)) (isC : List Nat) (hC : isC.map (fun i => Wd[i]?) = Wc.map some)
    (k1 : Cond.methodLink own index y ∈ WS) (kM : MS y b maxL ret n) (hrm : rm.cells = 0 ∧ rm.slots = 0) (hR : rm.frames + 1 ≤ R.frames ∧ 8 + (maxL + 11) + rm.locals ≤ R.locals)
    (hn : As.length = n) (hst : st = As.reverse ++ rest) (hroom : (rest.map fun v => v.category).sum ≤ 8) (hdg : decode cc pc = .ok (.invokestatic index, 3)) (hf : cells ≤ R.cells ∧ slots ≤ R.slots)
    (kk : W p l e R s m args below meth c H locs cells slots Q (F0 m (pc + 3) ls (.int rv :: rest))) : W p l e R s m args below meth c H locs cells slots Q (F0 m pc ls st) :=
  vp_callSi (W.runS (As := As) (rest := rest) (fixOf X) hM (sOf X k1 kM hrm hR) ⟨pcR_blind, fun U hU hWm => ⟨rfl, by rw [hU]; exact hP.sub isC (sub_of_map hC), va_K.moved hWm.alike X.2.2.2.2.2⟩⟩ rfl hn hl hst (lv_room hroom) hdg hf) (fun x hx => by subst hx; exact kk)
theorem cSRl {rv : Int64} (X : Cx p s m args c cc nL own D q) (hP : va_P D cls Wd H) (hl : ls.size = nL)
    (hM : Met l y (mw y b maxL ret) rm (pcR D q Wc As) (vp_Sl (fun x => x = rv)) 0 0 (fun _ => False)) (isC : List Nat) (hC : isC.map (fun i => Wd[i]?) = Wc.map some)
    (k1 : Cond.methodLink own index y ∈ WS) (kM : MS y b maxL ret n) (hrm : rm.cells = 0 ∧ rm.slots = 0) (hR : rm.frames + 1 ≤ R.frames ∧ 8 + (maxL + 11) + rm.locals ≤ R.locals)
    (hn : As.length = n) (hst : st = As.reverse ++ rest) (hroom : (rest.map fun v => v.category).sum ≤ 8) (hdg : decode cc pc = .ok (.invokestatic index, 3)) (hf : cells ≤ R.cells ∧ slots ≤ R.slots)
    (kk : W p l e R s m args below meth c H locs cells slots Q (F0 m (pc + 3) ls (.long rv :: rest))) : W p l e R s m args below meth c H locs cells slots Q (F0 m pc ls st) :=
  vp_callSl (W.runS (As := As) (rest := rest) (fixOf X) hM (sOf X k1 kM hrm hR) ⟨pcR_blind, fun U hU hWm => ⟨rfl, by rw [hU]; exact hP.sub isC (sub_of_map hC), va_K.moved hWm.alike X.2.2.2.2.2⟩⟩ rfl hn hl hst (lv_room hroom) hdg hf) (fun x hx => by subst hx; exact kk)
/-- behind a call that may write: the callee's cells as they are now, beside the caller's others, in the caller's order -/
theorem joinW {S : Type} {Wf Wn : S → va_W} {H1 : Heap} {u : S} {t : State} (hP : va_P D cls Wd H) (hD : va_D A Wd) (hS : va_S A H0 H locs) (hA : ∀ z, H0.size ≤ z → A z) (isC isR perm : List Nat) (hC : isC.map (fun i => Wd[i]?) = Wc.map some) (hR : isR.map (fun i => Wd[i]?) = Wr.map some) (hnR : va_nd isR = true) (hdis : ∀ i ∈ isR, i ∉ isC) (hnP : va_nd perm = true) (hperm : ∀ u, perm.map (fun i => (Wr ++ Wf u)[i]?) = (Wn u).map some)
    (ht : t.heap = H1) (hk : ∀ z : Nat, z < H.size → ¬ va_A Wc H.size z → H1[z]? = H[z]?) (hB : bW D q Wc H.size Wf u t) : va_P D cls (Wn u) H1 ∧ va_D A (Wn u) := by
  obtain ⟨hP1, -, hD1⟩ := hB
  rw [ht] at hP1
  have hFc := va_free hD hS hA isC hC
  obtain ⟨hP2, hD2⟩ := va_join hP hD isC isR hC hR hnR hdis hk hFc hP1 hD1
  exact ⟨hP2.sub perm (sub_of_map (hperm u)), hD2.sub perm hnP (hperm u)⟩
theorem cVWi {S : Type} {res : Int32 × S} {Wf Wn : S → va_W} (X : Cx p s m args c cc nL own D q) (hP : va_P D cls Wd H) (hD : va_D A Wd) (hS : va_S A H0 H locs) (hA : ∀ z, H0.size ≤ z → A z) (hl : ls.size = nL)
    (hM : Met l y (mw y b maxL ret) rm (pcW D q Wc H.size (.ref a :: As)) (va_Qi (fun r w => r = res.1 ∧ w = res.2) (bW D q Wc H.size Wf) (va_A Wc H.size)) 0 0 (va_A Wc H.size)) (isC isR perm : List Nat) (hC : isC.map (fun i => Wd[i]?) = Wc.map some) (hR' : isR.map (fun i => Wd[i]?) = Wr.map some) (hnC : va_nd isC = true) (hnR : va_nd isR = true) (hdis : ∀ i ∈ isR, i ∉ isC) (hnP : va_nd perm = true) (hperm : ∀ u, perm.map (fun i => (Wr ++ Wf u)[i]?) = (Wn u).map some)
    (q0 : Nat) (he : Wd[q0]? = some (a, .inr (ci, fs))) (hcl : cls[ci]? = some rc) (hrC : rc.1 = y.cls) (k1 : Cond.methodLink own index y ∈ WS) (kM : MV y b maxL ret n) (hrm : rm.cells = 0 ∧ rm.slots = 0) (hR : rm.frames + 1 ≤ R.frames ∧ 8 + (maxL + 11) + rm.locals ≤ R.locals)
    (hn : As.length = n) (hst : st = As.reverse ++ .ref a :: rest) (hroom : (rest.map fun v => v.category).sum ≤ 8) (hdg : decode cc pc = .ok (.invokevirtual index, 3)) (hf : cells ≤ R.cells ∧ slots ≤ R.slots)
    (kk : ∀ (H1 : Heap) (locs1 : List Loc), va_P D cls (Wn res.2) H1 → va_D A (Wn res.2) → va_S A H0 H1 locs1 → W p l e R s m args below meth c H1 locs1 cells slots Q (F0 m (pc + 3) ls (.int res.1 :: rest))) : W p l e R s m args below meth c H locs cells slots Q (F0 m pc ls st) := by
  have hFc := va_free hD hS hA isC hC
  refine va_calli (va_runV (As := As) (rest := rest) (fixOf X) hM (wOf X k1 kM hrm hR) ⟨pcW_blind, recvOf X hP he hcl hrC, fun U hU hWm => ⟨rfl, by rw [hU], by rw [hU]; exact hP.sub isC (sub_of_map hC), va_K.moved hWm.alike X.2.2.2.2.2, (hD.sub isC hnC hC).weaken (fun _ _ _ _ => trivial)⟩⟩ rfl hn hl hst (lv_room hroom) hdg hf) hS (fun z _ h => hFc z h) hFc (fun r u t H1 locs1 ht hvm hw hB hz1 hk1 hS1 => ?_)
  obtain ⟨hP2, hD2⟩ := joinW hP hD hS hA isC isR perm hC hR' hnR hdis hnP hperm ht hk1 hB
  obtain ⟨rfl, rfl⟩ := hw
  exact kk H1 locs1 hP2 hD2 hS1
theorem cVWv {S : Type} {res : S} {Wf Wn : S → va_W} (X : Cx p s m args c cc nL own D q) (hP : va_P D cls Wd H) (hD : va_D A Wd) (hS : va_S A H0 H locs) (hA : ∀ z, H0.size ≤ z → A z) (hl : ls.size = nL)
    (hM : Met l y (mw y b maxL ret) rm (pcW D q Wc H.size (.ref a :: As)) (va_Qv (fun w => w = res) (bW D q Wc H.size Wf) (va_A Wc H.size)) 0 0 (va_A Wc H.size)) (isC isR perm : List Nat) (hC : isC.map (fun i => Wd[i]?) = Wc.map some) (hR' : isR.map (fun i => Wd[i]?) = Wr.map some) (hnC : va_nd isC = true) (hnR : va_nd isR = true) (hdis : ∀ i ∈ isR, i ∉ isC) (hnP : va_nd perm = true) (hperm : ∀ u, perm.map (fun i => (Wr ++ Wf u)[i]?) = (Wn u).map some)
    (q0 : Nat) (he : Wd[q0]? = some (a, .inr (ci, fs))) (hcl : cls[ci]? = some rc) (hrC : rc.1 = y.cls) (k1 : Cond.methodLink own index y ∈ WS) (kM : MV y b maxL ret n) (hrm : rm.cells = 0 ∧ rm.slots = 0) (hR : rm.frames + 1 ≤ R.frames ∧ 8 + (maxL + 11) + rm.locals ≤ R.locals)
    (hn : As.length = n) (hst : st = As.reverse ++ .ref a :: rest) (hroom : (rest.map fun v => v.category).sum ≤ 8) (hdg : decode cc pc = .ok (.invokevirtual index, 3)) (hf : cells ≤ R.cells ∧ slots ≤ R.slots)
    (kk : ∀ (H1 : Heap) (locs1 : List Loc), va_P D cls (Wn res) H1 → va_D A (Wn res) → va_S A H0 H1 locs1 → W p l e R s m args below meth c H1 locs1 cells slots Q (F0 m (pc + 3) ls rest)) : W p l e R s m args below meth c H locs cells slots Q (F0 m pc ls st) := by
  have hFc := va_free hD hS hA isC hC
  refine va_callv (va_runV (As := As) (rest := rest) (fixOf X) hM (wOf X k1 kM hrm hR) ⟨pcW_blind, recvOf X hP he hcl hrC, fun U hU hWm => ⟨rfl, by rw [hU], by rw [hU]; exact hP.sub isC (sub_of_map hC), va_K.moved hWm.alike X.2.2.2.2.2, (hD.sub isC hnC hC).weaken (fun _ _ _ _ => trivial)⟩⟩ rfl hn hl hst (lv_room hroom) hdg hf) hS (fun z _ h => hFc z h) hFc (fun u t H1 locs1 ht hvm hw hB hz1 hk1 hS1 => ?_)
  obtain ⟨hP2, hD2⟩ := joinW hP hD hS hA isC isR perm hC hR' hnR hdis hnP hperm ht hk1 hB
  obtain rfl := hw
  exact kk H1 locs1 hP2 hD2 hS1
theorem cSWi {S : Type} {res : Int32 × S} {Wf Wn : S → va_W} (X : Cx p s m args c cc nL own D q) (hP : va_P D cls Wd H) (hD : va_D A Wd) (hS : va_S A H0 H locs) (hA : ∀ z, H0.size ≤ z → A z) (hl : ls.size = nL)
    (hM : Met l y (mw y b maxL ret) rm (pcW D q Wc H.size As) (va_Qi (fun r w => r = res.1 ∧ w = res.2) (bW D q Wc H.size Wf) (va_A Wc H.size)) 0 0 (va_A Wc H.size)) (isC isR perm : List Nat) (hC : isC.map (fun i => Wd[i]?) = Wc.map some) (hR' : isR.map (fun i => Wd[i]?) = Wr.map some) (hnC : va_nd isC = true) (hnR : va_nd isR = true) (hdis : ∀ i ∈ isR, i ∉ isC) (hnP : va_nd perm = true) (hperm : ∀ u, perm.map (fun i => (Wr ++ Wf u)[i]?) = (Wn u).map some)
    (k1 : Cond.methodLink own index y ∈ WS) (kM : MS y b maxL ret n) (hrm : rm.cells = 0 ∧ rm.slots = 0) (hR : rm.frames + 1 ≤ R.frames ∧ 8 + (maxL + 11) + rm.locals ≤ R.locals)
    (hn : As.length = n) (hst : st = As.reverse ++ rest) (hroom : (rest.map fun v => v.category).sum ≤ 8) (hdg : decode cc pc = .ok (.invokestatic index, 3)) (hf : cells ≤ R.cells ∧ slots ≤ R.slots)
    (kk : ∀ (H1 : Heap) (locs1 : List Loc), va_P D cls (Wn res.2) H1 → va_D A (Wn res.2) → va_S A H0 H1 locs1 → W p l e R s m args below meth c H1 locs1 cells slots Q (F0 m (pc + 3) ls (.int res.1 :: rest))) : W p l e R s m args below meth c H locs cells slots Q (F0 m pc ls st) := by
  have hFc := va_free hD hS hA isC hC
  refine va_calli (va_runS (As := As) (rest := rest) (fixOf X) hM (sOf X k1 kM hrm hR) ⟨pcW_blind, fun U hU hWm => ⟨rfl, by rw [hU], by rw [hU]; exact hP.sub isC (sub_of_map hC), va_K.moved hWm.alike X.2.2.2.2.2, (hD.sub isC hnC hC).weaken (fun _ _ _ _ => trivial)⟩⟩ rfl hn hl hst (lv_room hroom) hdg hf) hS (fun z _ h => hFc z h) hFc (fun r u t H1 locs1 ht hvm hw hB hz1 hk1 hS1 => ?_)
  obtain ⟨hP2, hD2⟩ := joinW hP hD hS hA isC isR perm hC hR' hnR hdis hnP hperm ht hk1 hB
  obtain ⟨rfl, rfl⟩ := hw
  exact kk H1 locs1 hP2 hD2 hS1
theorem cSWv {S : Type} {res : S} {Wf Wn : S → va_W} (X : Cx p s m args c cc nL own D q) (hP : va_P D cls Wd H) (hD : va_D A Wd) (hS : va_S A H0 H locs) (hA : ∀ z, H0.size ≤ z → A z) (hl : ls.size = nL)
    (hM : Met l y (mw y b maxL ret) rm (pcW D q Wc H.size As) (va_Qv (fun w => w = res) (bW D q Wc H.size Wf) (va_A Wc H.size)) 0 0 (va_A Wc H.size)) (isC isR perm : List Nat) (hC : isC.map (fun i => Wd[i]?) = Wc.map some) (hR' : isR.map (fun i => Wd[i]?) = Wr.map some) (hnC : va_nd isC = true) (hnR : va_nd isR = true) (hdis : ∀ i ∈ isR, i ∉ isC) (hnP : va_nd perm = true) (hperm : ∀ u, perm.map (fun i => (Wr ++ Wf u)[i]?) = (Wn u).map some)
    (k1 : Cond.methodLink own index y ∈ WS) (kM : MS y b maxL ret n) (hrm : rm.cells = 0 ∧ rm.slots = 0) (hR : rm.frames + 1 ≤ R.frames ∧ 8 + (maxL + 11) + rm.locals ≤ R.locals)
    (hn : As.length = n) (hst : st = As.reverse ++ rest) (hroom : (rest.map fun v => v.category).sum ≤ 8) (hdg : decode cc pc = .ok (.invokestatic index, 3)) (hf : cells ≤ R.cells ∧ slots ≤ R.slots)
    (kk : ∀ (H1 : Heap) (locs1 : List Loc), va_P D cls (Wn res) H1 → va_D A (Wn res) → va_S A H0 H1 locs1 → W p l e R s m args below meth c H1 locs1 cells slots Q (F0 m (pc + 3) ls rest)) : W p l e R s m args below meth c H locs cells slots Q (F0 m pc ls st) := by
  have hFc := va_free hD hS hA isC hC
  refine va_callv (va_runS (As := As) (rest := rest) (fixOf X) hM (sOf X k1 kM hrm hR) ⟨pcW_blind, fun U hU hWm => ⟨rfl, by rw [hU], by rw [hU]; exact hP.sub isC (sub_of_map hC), va_K.moved hWm.alike X.2.2.2.2.2, (hD.sub isC hnC hC).weaken (fun _ _ _ _ => trivial)⟩⟩ rfl hn hl hst (lv_room hroom) hdg hf) hS (fun z _ h => hFc z h) hFc (fun u t H1 locs1 ht hvm hw hB hz1 hk1 hS1 => ?_)
  obtain ⟨hP2, hD2⟩ := joinW hP hD hS hA isC isR perm hC hR' hnR hdis hnP hperm ht hk1 hB
  obtain rfl := hw
  exact kk H1 locs1 hP2 hD2 hS1
/-! ===== ends ===== -/
theorem eRi {r v : Int32} (X : Cx p s m args c cc nL own D q) (hr : meth.sig.returnType = some .int) (hlocks : meth.locks = false) (hm : some v = some r) (hdg : decode cc pc = .ok (.ireturn, 1)) : W p l e R s m args below meth c s.heap [] 0 0 (MQ below (vp_Si (fun x => x = r)) args s 0 0 (fun _ => False)) (F0 m pc ls [.int v]) :=
  W.iret X.1 X.2.1 hr (fun t ht _ => ⟨v, rfl, Option.some.inj hm, ht⟩) (fun _ h => by cases h) hdg
theorem eRz {r v : Int32} {ty : FieldType} (X : Cx p s m args c cc nL own D q) (hr : meth.sig.returnType = some ty) (hlocks : meth.locks = false) (hn : narrow ty (.int v) = .int v) (hm : some v = some r) (hdg : decode cc pc = .ok (.ireturn, 1)) : W p l e R s m args below meth c s.heap [] 0 0 (MQ below (vp_Si (fun x => x = r)) args s 0 0 (fun _ => False)) (F0 m pc ls [.int v]) :=
  W.zret X.1 X.2.1 hr hn (fun t ht _ => ⟨v, rfl, Option.some.inj hm, ht⟩) (fun _ h => by cases h) hdg
theorem eRl {r v : Int64} (X : Cx p s m args c cc nL own D q) (hr : meth.sig.returnType = some .long) (hlocks : meth.locks = false) (hm : some v = some r) (hdg : decode cc pc = .ok (.lreturn, 1)) : W p l e R s m args below meth c s.heap [] 0 0 (MQ below (vp_Sl (fun x => x = r)) args s 0 0 (fun _ => False)) (F0 m pc ls [.long v]) :=
  W.lret X.1 X.2.1 hr (fun t ht _ => ⟨v, rfl, Option.some.inj hm, ht⟩) (fun _ h => by cases h) hdg
theorem eWi {S : Type} {Wf : S → va_W} {u : S} {v : Int32} {res : Int32 × S} (X : Cx p s m args c cc nL own D q) (hr : meth.sig.returnType = some .int) (hlocks : meth.locks = false) (hP : va_P D cls (Wf u) H) (hD : va_D (va_A Wd s.heap.size) (Wf u)) (hS : va_S (va_A Wd s.heap.size) s.heap H locs) (hm : some (v, u) = some res) (hdg : decode cc pc = .ok (.ireturn, 1)) : W p l e R s m args below meth c H locs 0 0 (MQ below (va_Qi (fun r w => r = res.1 ∧ w = res.2) (bW D q Wd s.heap.size Wf) (va_A Wd s.heap.size)) args s 0 0 (va_A Wd s.heap.size)) (F0 m pc ls [.int v]) :=
  W.iret X.1 X.2.1 hr (fun t ht hW => ⟨⟨v, u, rfl, by cases hm; exact ⟨rfl, rfl⟩, by rw [ht]; exact hP, va_K.moved hW.alike X.2.2.2.2.2, hD⟩, hS.F ht⟩) hS.2.2 hdg
theorem eWz {S : Type} {Wf : S → va_W} {u : S} {v : Int32} {res : Int32 × S} {ty : FieldType} (X : Cx p s m args c cc nL own D q) (hr : meth.sig.returnType = some ty) (hlocks : meth.locks = false) (hn : narrow ty (.int v) = .int v) (hP : va_P D cls (Wf u) H) (hD : va_D (va_A Wd s.heap.size) (Wf u)) (hS : va_S (va_A Wd s.heap.size) s.heap H locs) (hm : some (v, u) = some res) (hdg : decode cc pc = .ok (.ireturn, 1)) : W p l e R s m args below meth c H locs 0 0 (MQ below (va_Qi (fun r w => r = res.1 ∧ w = res.2) (bW D q Wd s.heap.size Wf) (va_A Wd s.heap.size)) args s 0 0 (va_A Wd s.heap.size)) (F0 m pc ls [.int v]) :=
  W.zret X.1 X.2.1 hr hn (fun t ht hW => ⟨⟨v, u, rfl, by cases hm; exact ⟨rfl, rfl⟩, by rw [ht]; exact hP, va_K.moved hW.alike X.2.2.2.2.2, hD⟩, hS.F ht⟩) hS.2.2 hdg
theorem eWv {S : Type} {Wf : S → va_W} {u res : S} (X : Cx p s m args c cc nL own D q) (hr : meth.sig.returnType = none) (hlocks : meth.locks = false) (hP : va_P D cls (Wf u) H) (hD : va_D (va_A Wd s.heap.size) (Wf u)) (hS : va_S (va_A Wd s.heap.size) s.heap H locs) (hm : some u = some res) (hdg : decode cc pc = .ok (.return_, 1)) : W p l e R s m args below meth c H locs 0 0 (MQ below (va_Qv (fun w => w = res) (bW D q Wd s.heap.size Wf) (va_A Wd s.heap.size)) args s 0 0 (va_A Wd s.heap.size)) (F0 m pc ls []) :=
  W.vret X.1 X.2.1 hr (fun t ht hW => ⟨⟨u, rfl, Option.some.inj hm, by rw [ht]; exact hP, va_K.moved hW.alike X.2.2.2.2.2, hD⟩, hS.F ht⟩) hS.2.2 hdg
theorem r_aald {n bb : Nat} {cA : ClassId} {C : String} {f : Nat → Option Nat} {i : Int32} (hx : p.tables.exec = Jvm.exec) (hb : c.code = cc) (hK : va_K D cls (tyq q) s) (hP : va_P D cls Wd H) (q0 t0 : Nat) (ha : Wd[q0]? = some (a, .inl (cA, n, .inr (.inr (.inr (.inr f)))))) (ht : (tyq q)[t0]? = some (cA, .object C)) (hin : vp_in i n) (hv : va_rf (f i.toNatClampNeg) = .ref bb) (hdg : decode cc pc = .ok (.aaload, 1))
    (kk : W p l e R s m args below meth c H locs cells slots Q (F0 m (pc + 1) ls (.ref bb :: rest))) : W p l e R s m args below meth c H locs cells slots Q (F0 m pc ls (.int i :: .ref a :: rest)) :=
  va_aldq hx hb hK hP q0 t0 ha ht hin hdg (by rw [hv]; exact kk)
theorem sw_out {x : Int32} {lo hi : Int} (h : ∀ k : Int, lo ≤ k → k ≤ hi → ¬ x.toInt = k) : x.toInt < lo ∨ hi < x.toInt := by
  rcases Int.lt_or_le x.toInt lo with h1 | h1
  · exact Or.inl h1
  · rcases Int.lt_or_le hi x.toInt with h2 | h2
    · exact Or.inr h2
    · exact absurd rfl (h _ h1 h2)
end CALLS
