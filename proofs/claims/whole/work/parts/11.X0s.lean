
/-! ===== String constants of the Reader, by their places ===== -/
def sLen : List Nat := [5, 4, 6, 8, 5, 5, 4, 6, 5]
def sByt : List (List Int32) := [[112, 108, 97, 105, 110], [116, 119, 105, 110], [115, 104, 97, 100, 111, 119], [115, 116, 114, 97, 110, 103, 101, 114], [112, 97, 114, 116, 115], [119, 111, 114, 116, 104], [98, 111, 110, 100], [102, 111, 114, 103, 101, 114], [112, 97, 105, 110, 116]]
def sIx : List Nat := [183, 185, 187, 189, 191, 192, 194, 196, 198]
def sTx : List String := ["plain", "twin", "shadow", "stranger", "parts", "worth", "bond", "forger", "paint"]
def sCh (i : Nat) (k : Int32) : Int32 := (((sByt.getD i []).getD k.toNatClampNeg 0 &&& 255).toUInt32 % 65536).toInt32
theorem s_shr : ∀ i, i < 9 → nI (sLen.getD i 0) >>> ((0 : Int32) &&& 31) = nI (sLen.getD i 0) := by decide +kernel
theorem s_nar : ∀ i, i < 9 → ∀ j, j < sLen.getD i 0 → narrow .char (.int (((sByt.getD i []).getD j 0 &&& 255).toUInt32 % 65536).toInt32) = .int (((sByt.getD i []).getD j 0 &&& 255).toUInt32 % 65536).toInt32 := by decide +kernel
theorem s_len : ∀ i, i < 9 → sLen.getD i 0 < 9 := by decide +kernel
def stK (aK aV : Nat → Nat) (A : Nat → Prop) (U : State) (H : Heap) : Prop := vk_S 9 sLen sByt aK aV A U H ∧ va_Z "java/lang/String" "COMPACT_STRINGS" "Z" (.int 1) A U H ∧ va_Zq "jdk/internal/util/Preconditions" "SIOOBE_FORMATTER" "Ljava/util/function/BiFunction;" A U H
def stR (aK : Nat → Nat) (U : State) : Prop := ∀ i, i < 9 → vk_R RX0 (sIx.getD i 0) (sTx.getD i "") (aK i) U
theorem stK.moved {aK aV : Nat → Nat} {A : Nat → Prop} {u U : State} {H : Heap} (hvm : u.vm.Alike U.vm) (h : stK aK aV A u H) : stK aK aV A U H := ⟨h.1.moved hvm, h.2.1.moved hvm, h.2.2.moved hvm⟩
theorem stK.kept {aK aV : Nat → Nat} {A : Nat → Prop} {U : State} {H H1 : Heap} (h : stK aK aV A U H) (hq : ∀ a : Nat, a < H.size → ¬ A a → H1[a]? = H[a]?) : stK aK aV A U H1 := ⟨h.1.kept hq, h.2.1.kept hq, h.2.2.kept hq⟩
theorem stK.narrow {aK aV : Nat → Nat} {A B : Nat → Prop} {U : State} {H : Heap} (h : stK aK aV A U H) (hAB : ∀ q, B q → A q) : stK aK aV B U H := ⟨h.1.narrow hAB, h.2.1.narrow hAB, h.2.2.narrow hAB⟩
theorem stR.warm {aK : Nat → Nat} {s U : State} (hW : s.WarmedH U.vm) (h : stR aK s) : stR aK U := fun i hi => vk_R.warm hW (h i hi)
theorem stR.same {aK : Nat → Nat} {u U : State} (hv : U.vm = u.vm) (h : stR aK u) : stR aK U := fun i hi => vk_R.same hv (h i hi)
/-- a method that only reads, and needs the texts -/
def pcT (D : va_G) (q : Nat → ClassId) (aK aV : Nat → Nat) (av : List Value) : Array Value → State → Prop := va_Pc av (fun U => va_K D cls (tyq q) U ∧ stK aK aV (fun _ => False) U U.heap)
def pcN (D : va_G) (q : Nat → ClassId) (aK : Nat → Nat) (av : List Value) : Array Value → State → Prop := va_Pc av (fun U => va_K D cls (tyq q) U ∧ stR aK U)
def pcRT (D : va_G) (q : Nat → ClassId) (aK aV : Nat → Nat) (W : va_W) (av : List Value) : Array Value → State → Prop := va_Pc av (fun U => va_P D cls W U.heap ∧ va_K D cls (tyq q) U ∧ stK aK aV (fun _ => False) U U.heap ∧ stR aK U)
def pcWT (D : va_G) (q : Nat → ClassId) (aK aV : Nat → Nat) (W : va_W) (sz : Nat) (av : List Value) : Array Value → State → Prop := va_Pc av (fun U => U.heap.size = sz ∧ va_P D cls W U.heap ∧ va_K D cls (tyq q) U ∧ va_D (fun _ => True) W ∧ stK aK aV (va_A W sz) U U.heap ∧ stR aK U)
theorem stR_call {aK : Nat → Nat} {U : State} {g : JFrame} {mk : MethodId} {a : Array Value} (h : stR aK U) : stR aK (U.calling g mk a) := stR.same rfl h
theorem stK_call {aK aV : Nat → Nat} {A : Nat → Prop} {U : State} {H : Heap} {g : JFrame} {mk : MethodId} {a : Array Value} (h : stK aK aV A U H) : stK aK aV A (U.calling g mk a) H := stK.moved (u := U) (U := U.calling g mk a) (Vm.Alike.refl U.vm) h
theorem vaK_call {D : va_G} {q : Nat → ClassId} {U : State} {g : JFrame} {mk : MethodId} {a : Array Value} (h : va_K D cls (tyq q) U) : va_K D cls (tyq q) (U.calling g mk a) := va_K.moved (u := U) (U := U.calling g mk a) (Vm.Alike.refl U.vm) h
def pcK (D : va_G) (q : Nat → ClassId) (av : List Value) : Array Value → State → Prop := va_Pc av (fun U => va_K D cls (tyq q) U)
theorem pcK_blind {D : va_G} {q : Nat → ClassId} {av : List Value} : FrameBlind (pcK D q av) := fun a U g mk h => ⟨h.1, vaK_call h.2⟩
theorem pcT_blind {D : va_G} {q : Nat → ClassId} {aK aV : Nat → Nat} {av : List Value} : FrameBlind (pcT D q aK aV av) := fun a U g mk h => by
  obtain ⟨h0, h1, h2⟩ := h
  exact ⟨h0, vaK_call h1, stK_call h2⟩
theorem pcN_blind {D : va_G} {q : Nat → ClassId} {aK : Nat → Nat} {av : List Value} : FrameBlind (pcN D q aK av) := fun a U g mk h => by
  obtain ⟨h0, h1, h2⟩ := h
  exact ⟨h0, vaK_call h1, stR_call h2⟩
theorem pcRT_blind {D : va_G} {q : Nat → ClassId} {aK aV : Nat → Nat} {W : va_W} {av : List Value} : FrameBlind (pcRT D q aK aV W av) := fun a U g mk h => by
  obtain ⟨h0, qP, h1, h2, h3⟩ := h
  exact ⟨h0, qP, vaK_call h1, stK_call h2, stR_call h3⟩
theorem pcWT_blind {D : va_G} {q : Nat → ClassId} {aK aV : Nat → Nat} {W : va_W} {sz : Nat} {av : List Value} : FrameBlind (pcWT D q aK aV W sz av) := fun a U g mk h => by
  obtain ⟨h0, hz, qP, h1, qD, h2, h3⟩ := h
  exact ⟨h0, hz, qP, vaK_call h1, qD, stK_call h2, stR_call h3⟩
section CALLT
variable {p : Program} {l : Launch} {e : Env} {R : Room} {s : State} {m : MethodId} {args : Array Value} {below : List Frame} {meth : Method} {c : Code} {H : Heap} {locs : List Loc} {cells slots : Nat} {Q : State → Prop}
variable {pc : Nat} {ls : Array Slot} {cc : ByteArray} {nL : Nat} {own : String} {D : va_G} {q : Nat → ClassId} {Wd Wc Wr : va_W} {y : MethodName} {b : ByteArray} {maxL n index ci q0 a : Nat} {ret : Option FieldType} {rm : Room} {As rest st : List Value} {rc : vw_C} {fs : List Value} {A : Nat → Prop} {H0 : Heap} {aK aV : Nat → Nat}
/-- on a text: a method that only reads -/
theorem cVTi {rv : Int32} {i : Nat} (hi : i < 9) (X : Cx p s m args c cc nL own D q) (hE : stK aK aV A s s.heap) (hS : va_S A s.heap H locs) (hl : ls.size = nL)
    (hM : Met l y (mw y b maxL ret) rm (pcT D q aK aV (.ref (aK i) :: As)) (vp_Si (fun x => x = rv)) 0 0 (fun _ => False))
    (hy : y.cls = "java/lang/String") (k1 : Cond.methodLink own index y ∈ WS) (kM : MV y b maxL ret n) (hrm : rm.cells = 0 ∧ rm.slots = 0) (hR : rm.frames + 1 ≤ R.frames ∧ 8 + (maxL + 11) + rm.locals ≤ R.locals)
    (hn : As.length = n) (hst : st = As.reverse ++ .ref (aK i) :: rest) (hroom : (rest.map fun v => v.category).sum ≤ 8) (hdg : decode cc pc = .ok (.invokevirtual index, 3)) (hf : cells ≤ R.cells ∧ slots ≤ R.slots)
    (kk : W p l e R s m args below meth c H locs cells slots Q (F0 m (pc + 3) ls (.int rv :: rest))) : W p l e R s m args below meth c H locs cells slots Q (F0 m pc ls st) :=
  vp_callSi (W.runV (As := As) (rest := rest) (fixOf X) hM (wOf X k1 kM hrm hR) ⟨pcT_blind, by rw [hy]; exact vk_recv hE.1 hi hS, fun U hU hWm => ⟨rfl, va_K.moved hWm.alike X.2.2.2.2.2, by rw [hU]; exact ((hE.kept hS.2.1).narrow (fun _ h => h.elim)).moved hWm.alike⟩⟩ rfl hn hl hst (lv_room hroom) hdg hf) (fun x hx => by subst hx; exact kk)
theorem cSTi {rv : Int32} (X : Cx p s m args c cc nL own D q) (hE : stK aK aV A s s.heap) (hS : va_S A s.heap H locs) (hl : ls.size = nL)
    (hM : Met l y (mw y b maxL ret) rm (pcT D q aK aV As) (vp_Si (fun x => x = rv)) 0 0 (fun _ => False))
    (k1 : Cond.methodLink own index y ∈ WS) (kM : MS y b maxL ret n) (hrm : rm.cells = 0 ∧ rm.slots = 0) (hR : rm.frames + 1 ≤ R.frames ∧ 8 + (maxL + 11) + rm.locals ≤ R.locals)
    (hn : As.length = n) (hst : st = As.reverse ++ rest) (hroom : (rest.map fun v => v.category).sum ≤ 8) (hdg : decode cc pc = .ok (.invokestatic index, 3)) (hf : cells ≤ R.cells ∧ slots ≤ R.slots)
    (kk : W p l e R s m args below meth c H locs cells slots Q (F0 m (pc + 3) ls (.int rv :: rest))) : W p l e R s m args below meth c H locs cells slots Q (F0 m pc ls st) :=
  vp_callSi (W.runS (As := As) (rest := rest) (fixOf X) hM (sOf X k1 kM hrm hR) ⟨pcT_blind, fun U hU hWm => ⟨rfl, va_K.moved hWm.alike X.2.2.2.2.2, by rw [hU]; exact ((hE.kept hS.2.1).narrow (fun _ h => h.elim)).moved hWm.alike⟩⟩ rfl hn hl hst (lv_room hroom) hdg hf) (fun x hx => by subst hx; exact kk)
theorem cSTv (X : Cx p s m args c cc nL own D q) (hE : stK aK aV A s s.heap) (hS : va_S A s.heap H locs) (hl : ls.size = nL)
    (hM : Met l y (mw y b maxL ret) rm (pcT D q aK aV As) (va_Sv (fun _ => True)) 0 0 (fun _ => False))
    (k1 : Cond.methodLink own index y ∈ WS) (kM : MS y b maxL ret n) (hrm : rm.cells = 0 ∧ rm.slots = 0) (hR : rm.frames + 1 ≤ R.frames ∧ 8 + (maxL + 11) + rm.locals ≤ R.locals)
    (hn : As.length = n) (hst : st = As.reverse ++ rest) (hroom : (rest.map fun v => v.category).sum ≤ 8) (hdg : decode cc pc = .ok (.invokestatic index, 3)) (hf : cells ≤ R.cells ∧ slots ≤ R.slots)
    (kk : W p l e R s m args below meth c H locs cells slots Q (F0 m (pc + 3) ls rest)) : W p l e R s m args below meth c H locs cells slots Q (F0 m pc ls st) :=
  va_csv (W.runS (As := As) (rest := rest) (fixOf X) hM (sOf X k1 kM hrm hR) ⟨pcT_blind, fun U hU hWm => ⟨rfl, va_K.moved hWm.alike X.2.2.2.2.2, by rw [hU]; exact ((hE.kept hS.2.1).narrow (fun _ h => h.elim)).moved hWm.alike⟩⟩ rfl hn hl hst (lv_room hroom) hdg hf) (fun _ => kk)
/-- a method that hands back a text, by its number -/
theorem cSNs {rv : Nat} (X : Cx p s m args c cc nL own D q) (hR' : stR aK s) (hl : ls.size = nL)
    (hM : Met l y (mw y b maxL ret) rm (pcN D q aK As) (va_Sr (fun k => k = rv) (fun k => .ref (aK k))) 0 0 (fun _ => False))
    (k1 : Cond.methodLink own index y ∈ WS) (kM : MS y b maxL ret n) (hrm : rm.cells = 0 ∧ rm.slots = 0) (hR : rm.frames + 1 ≤ R.frames ∧ 8 + (maxL + 11) + rm.locals ≤ R.locals)
    (hn : As.length = n) (hst : st = As.reverse ++ rest) (hroom : (rest.map fun v => v.category).sum ≤ 8) (hdg : decode cc pc = .ok (.invokestatic index, 3)) (hf : cells ≤ R.cells ∧ slots ≤ R.slots)
    (kk : W p l e R s m args below meth c H locs cells slots Q (F0 m (pc + 3) ls (.ref (aK rv) :: rest))) : W p l e R s m args below meth c H locs cells slots Q (F0 m pc ls st) :=
  va_csr (W.runS (As := As) (rest := rest) (fixOf X) hM (sOf X k1 kM hrm hR) ⟨pcN_blind, fun U hU hWm => ⟨rfl, va_K.moved hWm.alike X.2.2.2.2.2, hR'.warm hWm⟩⟩ rfl hn hl hst (lv_room hroom) hdg hf) (fun x hx => by subst hx; exact kk)
theorem cVRTi {rv : Int32} (X : Cx p s m args c cc nL own D q) (hE : stK aK aV A s s.heap) (hR' : stR aK s) (hP : va_P D cls Wd H) (hS : va_S A s.heap H locs) (hl : ls.size = nL)
    (hM : Met l y (mw y b maxL ret) rm (pcRT D q aK aV Wc (.ref a :: As)) (vp_Si (fun x => x = rv)) 0 0 (fun _ => False)) (isC : List Nat) (hC : isC.map (fun i => Wd[i]?) = Wc.map some)
    (q0 : Nat) (he : Wd[q0]? = some (a, .inr (ci, fs))) (hcl : cls[ci]? = some rc) (hrC : rc.1 = y.cls) (k1 : Cond.methodLink own index y ∈ WS) (kM : MV y b maxL ret n) (hrm : rm.cells = 0 ∧ rm.slots = 0) (hR : rm.frames + 1 ≤ R.frames ∧ 8 + (maxL + 11) + rm.locals ≤ R.locals)
    (hn : As.length = n) (hst : st = As.reverse ++ .ref a :: rest) (hroom : (rest.map fun v => v.category).sum ≤ 8) (hdg : decode cc pc = .ok (.invokevirtual index, 3)) (hf : cells ≤ R.cells ∧ slots ≤ R.slots)
    (kk : W p l e R s m args below meth c H locs cells slots Q (F0 m (pc + 3) ls (.int rv :: rest))) : W p l e R s m args below meth c H locs cells slots Q (F0 m pc ls st) :=
  vp_callSi (W.runV (As := As) (rest := rest) (fixOf X) hM (wOf X k1 kM hrm hR) ⟨pcRT_blind, recvOf X hP he hcl hrC, fun U hU hWm => ⟨rfl, by rw [hU]; exact hP.sub isC (sub_of_map hC), va_K.moved hWm.alike X.2.2.2.2.2, by rw [hU]; exact ((hE.kept hS.2.1).narrow (fun _ h => h.elim)).moved hWm.alike, hR'.warm hWm⟩⟩ rfl hn hl hst (lv_room hroom) hdg hf) (fun x hx => by subst hx; exact kk)
theorem cVWTi {S : Type} {res : Int32 × S} {Wf Wn : S → va_W} (X : Cx p s m args c cc nL own D q) (hE : stK aK aV A s s.heap) (hR' : stR aK s) (hP : va_P D cls Wd H) (hD : va_D A Wd) (hS : va_S A s.heap H locs) (hA : ∀ z, s.heap.size ≤ z → A z) (hl : ls.size = nL)
    (hM : Met l y (mw y b maxL ret) rm (pcWT D q aK aV Wc H.size (.ref a :: As)) (va_Qi (fun r w => r = res.1 ∧ w = res.2) (bW D q Wc H.size Wf) (va_A Wc H.size)) 0 0 (va_A Wc H.size)) (isC isR perm : List Nat) (hC : isC.map (fun i => Wd[i]?) = Wc.map some) (hR'' : isR.map (fun i => Wd[i]?) = Wr.map some) (hnC : va_nd isC = true) (hnR : va_nd isR = true) (hdis : ∀ i ∈ isR, i ∉ isC) (hnP : va_nd perm = true) (hperm : ∀ u, perm.map (fun i => (Wr ++ Wf u)[i]?) = (Wn u).map some)
    (q0 : Nat) (he : Wd[q0]? = some (a, .inr (ci, fs))) (hcl : cls[ci]? = some rc) (hrC : rc.1 = y.cls) (k1 : Cond.methodLink own index y ∈ WS) (kM : MV y b maxL ret n) (hrm : rm.cells = 0 ∧ rm.slots = 0) (hR : rm.frames + 1 ≤ R.frames ∧ 8 + (maxL + 11) + rm.locals ≤ R.locals)
    (hn : As.length = n) (hst : st = As.reverse ++ .ref a :: rest) (hroom : (rest.map fun v => v.category).sum ≤ 8) (hdg : decode cc pc = .ok (.invokevirtual index, 3)) (hf : cells ≤ R.cells ∧ slots ≤ R.slots)
    (kk : ∀ (H1 : Heap) (locs1 : List Loc), va_P D cls (Wn res.2) H1 → va_D A (Wn res.2) → va_S A s.heap H1 locs1 → W p l e R s m args below meth c H1 locs1 cells slots Q (F0 m (pc + 3) ls (.int res.1 :: rest))) : W p l e R s m args below meth c H locs cells slots Q (F0 m pc ls st) := by
  have hFc := va_free hD hS hA isC hC
  refine va_calli (va_runV (As := As) (rest := rest) (fixOf X) hM (wOf X k1 kM hrm hR) ⟨pcWT_blind, recvOf X hP he hcl hrC, fun U hU hWm => ⟨rfl, by rw [hU], by rw [hU]; exact hP.sub isC (sub_of_map hC), va_K.moved hWm.alike X.2.2.2.2.2, (hD.sub isC hnC hC).weaken (fun _ _ _ _ => trivial), by rw [hU]; exact ((hE.kept hS.2.1).narrow hFc).moved hWm.alike, hR'.warm hWm⟩⟩ rfl hn hl hst (lv_room hroom) hdg hf) hS (fun z _ h => hFc z h) hFc (fun r u t H1 locs1 ht hvm hw hB hz1 hk1 hS1 => ?_)
  obtain ⟨hP2, hD2⟩ := joinW hP hD hS hA isC isR perm hC hR'' hnR hdis hnP hperm ht hk1 hB
  obtain ⟨rfl, rfl⟩ := hw
  exact kk H1 locs1 hP2 hD2 hS1
theorem eRv (X : Cx p s m args c cc nL own D q) (hr : meth.sig.returnType = none) (hlocks : meth.locks = false) (hdg : decode cc pc = .ok (.return_, 1)) : W p l e R s m args below meth c s.heap [] 0 0 (MQ below (va_Sv (fun _ => True)) args s 0 0 (fun _ => False)) (F0 m pc ls []) :=
  W.vret X.1 X.2.1 hr (fun t ht _ => ⟨rfl, trivial, ht⟩) (fun _ h => by cases h) hdg
theorem eRs {r k : Nat} {nm : String} (X : Cx p s m args c cc nL own D q) (hr : meth.sig.returnType = some (.object nm)) (hlocks : meth.locks = false) (hm : some k = some r) (hdg : decode cc pc = .ok (.areturn, 1)) : W p l e R s m args below meth c s.heap [] 0 0 (MQ below (va_Sr (fun k => k = r) (fun k => .ref (aK k))) args s 0 0 (fun _ => False)) (F0 m pc ls [.ref (aK k)]) :=
  W.aret X.1 X.2.1 hr (Or.inl ⟨_, rfl⟩) (Or.inr ⟨_, rfl⟩) (fun t ht _ => ⟨k, rfl, Option.some.inj hm, ht⟩) (fun _ h => by cases h) hdg
end CALLT

set_option maxHeartbeats 4000000 in
set_option maxRecDepth 100000 in
theorem c_J0_coder_7d493 (l : Launch) (D : va_G) (q : Nat → ClassId) (aK aV : Nat → Nat) (i : Nat) (hi : i < 9) : Met l yJ0_coder_7d493 (mw yJ0_coder_7d493 cJ0_coder_7d493 1 (some .byte)) ({ frames := 0, cells := 0, slots := 0, locals := 0 } : Room) (pcT D q aK aV [.ref (aK i)]) (vp_Si (fun x => x = 0)) 0 0 (fun _ => False) := by
  refine Met.ofW (cc := cJ0_coder_7d493) (maxL := 1) (ret := (some .byte)) (by decide) rfl ?_
  intro p e s m args below meth c s₁ B hml hv
  obtain ⟨rfl, hK, hE⟩ := hv
  have hx := B.exec
  have hb := B.bytes
  have hr := B.returns
  have hW := mw_ws (atoms_spec (ws := mw yJ0_coder_7d493 cJ0_coder_7d493 1 (some .byte)) B.pre)
  have hown : s.vm.findClass RJ0 = some m.cls := findClass_of_methodNamed B.named
  have hlocks := B.notSynchronized
  have X : Cx p s m [.ref (aK i)].toArray c cJ0_coder_7d493 1 RJ0 D q := ⟨hx, hb, hml, hown, hW, hK⟩
  have hS : va_S (fun _ => False) s.heap s.heap [] := va_S.rf
  have hl0 := lv_entry ([.ref (aK i)]) (n := 1) (Nat.le_of_ble_eq_true rfl)
  rw [lg_entry_eq]
  generalize (lg_sl ([.ref (aK i)]) ++ List.replicate (1 - (lg_sl ([.ref (aK i)])).length) Slot.unset).toArray = ls0 at hl0 ⊢
  have hl0 : lv_has ls0 1 [(0, .ref (aK i))] := hl0
  refine va_gets (v := .int 1) hx hb hE.2.1 hS hown (hW _ k_410) (fun _ h => h) dJ0_coder_7d493_0 ?_
  refine lv_if_eq (tgt := 13) hx hb dJ0_coder_7d493_3 (by decide) (fun c3 => absurd c3 (by decide)) (fun _ => ?_)
  refine lv_aload_n hx hb dJ0_coder_7d493_6 rfl (lv_at hl0 0 rfl) ?_
  refine vk_getf (v := .int 0) hx hb (hE.1.1 i hi).2.1 hS hown (hW _ k_1330) (fun _ h => h) dJ0_coder_7d493_7 ?_
  refine lv_goto (tgt := 14) hx hb dJ0_coder_7d493_10 (by decide) ?_
  exact eRz X hr hlocks rfl rfl dJ0_coder_7d493_14

set_option maxHeartbeats 4000000 in
set_option maxRecDepth 100000 in
theorem c_J0_isLatin1_aae02 (l : Launch) (D : va_G) (q : Nat → ClassId) (aK aV : Nat → Nat) (i : Nat) (hi : i < 9) : Met l yJ0_isLatin1_aae02 (mw yJ0_isLatin1_aae02 cJ0_isLatin1_aae02 1 (some .boolean)) ({ frames := 0, cells := 0, slots := 0, locals := 0 } : Room) (pcT D q aK aV [.ref (aK i)]) (vp_Si (fun x => x = 1)) 0 0 (fun _ => False) := by
  refine Met.ofW (cc := cJ0_isLatin1_aae02) (maxL := 1) (ret := (some .boolean)) (by decide) rfl ?_
  intro p e s m args below meth c s₁ B hml hv
  obtain ⟨rfl, hK, hE⟩ := hv
  have hx := B.exec
  have hb := B.bytes
  have hr := B.returns
  have hW := mw_ws (atoms_spec (ws := mw yJ0_isLatin1_aae02 cJ0_isLatin1_aae02 1 (some .boolean)) B.pre)
  have hown : s.vm.findClass RJ0 = some m.cls := findClass_of_methodNamed B.named
  have hlocks := B.notSynchronized
  have X : Cx p s m [.ref (aK i)].toArray c cJ0_isLatin1_aae02 1 RJ0 D q := ⟨hx, hb, hml, hown, hW, hK⟩
  have hS : va_S (fun _ => False) s.heap s.heap [] := va_S.rf
  have hl0 := lv_entry ([.ref (aK i)]) (n := 1) (Nat.le_of_ble_eq_true rfl)
  rw [lg_entry_eq]
  generalize (lg_sl ([.ref (aK i)]) ++ List.replicate (1 - (lg_sl ([.ref (aK i)])).length) Slot.unset).toArray = ls0 at hl0 ⊢
  have hl0 : lv_has ls0 1 [(0, .ref (aK i))] := hl0
  refine va_gets (v := .int 1) hx hb hE.2.1 hS hown (hW _ k_410) (fun _ h => h) dJ0_isLatin1_aae02_0 ?_
  refine lv_if_eq (tgt := 17) hx hb dJ0_isLatin1_aae02_3 (by decide) (fun c3 => absurd c3 (by decide)) (fun _ => ?_)
  refine lv_aload_n hx hb dJ0_isLatin1_aae02_6 rfl (lv_at hl0 0 rfl) ?_
  refine vk_getf (v := .int 0) hx hb (hE.1.1 i hi).2.1 hS hown (hW _ k_1330) (fun _ h => h) dJ0_isLatin1_aae02_7 ?_
  refine lv_if_ne (tgt := 17) hx hb dJ0_isLatin1_aae02_10 (by decide) (fun c3 => absurd rfl c3) (fun _ => ?_)
  refine lv_iconst (v := (1 : Int32)) hx hb dJ0_isLatin1_aae02_13 (by decide) ?_
  refine lv_goto (tgt := 18) hx hb dJ0_isLatin1_aae02_14 (by decide) ?_
  exact eRz X hr hlocks rfl rfl dJ0_isLatin1_aae02_18

set_option maxHeartbeats 4000000 in
set_option maxRecDepth 100000 in
theorem c_J0_length_8abf5 (l : Launch) (D : va_G) (q : Nat → ClassId) (aK aV : Nat → Nat) (i : Nat) (hi : i < 9) : Met l yJ0_length_8abf5 (mw yJ0_length_8abf5 cJ0_length_8abf5 1 (some .int)) ({ frames := 1, cells := 0, slots := 0, locals := 20 } : Room) (pcT D q aK aV [.ref (aK i)]) (vp_Si (fun x => x = nI (sLen.getD i 0))) 0 0 (fun _ => False) := by
  refine Met.ofW (cc := cJ0_length_8abf5) (maxL := 1) (ret := (some .int)) (by decide) rfl ?_
  intro p e s m args below meth c s₁ B hml hv
  obtain ⟨rfl, hK, hE⟩ := hv
  have hx := B.exec
  have hb := B.bytes
  have hr := B.returns
  have hW := mw_ws (atoms_spec (ws := mw yJ0_length_8abf5 cJ0_length_8abf5 1 (some .int)) B.pre)
  have hown : s.vm.findClass RJ0 = some m.cls := findClass_of_methodNamed B.named
  have hlocks := B.notSynchronized
  have X : Cx p s m [.ref (aK i)].toArray c cJ0_length_8abf5 1 RJ0 D q := ⟨hx, hb, hml, hown, hW, hK⟩
  have hS : va_S (fun _ => False) s.heap s.heap [] := va_S.rf
  have hl0 := lv_entry ([.ref (aK i)]) (n := 1) (Nat.le_of_ble_eq_true rfl)
  rw [lg_entry_eq]
  generalize (lg_sl ([.ref (aK i)]) ++ List.replicate (1 - (lg_sl ([.ref (aK i)])).length) Slot.unset).toArray = ls0 at hl0 ⊢
  have hl0 : lv_has ls0 1 [(0, .ref (aK i))] := hl0
  refine lv_aload_n hx hb dJ0_length_8abf5_0 rfl (lv_at hl0 0 rfl) ?_
  refine vk_getf (v := .ref (aV i)) hx hb (hE.1.1 i hi).2.2.1 hS hown (hW _ k_1329) (fun _ h => h) dJ0_length_8abf5_1 ?_
  refine va_tlen (v := nI (sLen.getD i 0)) hx hb (hE.1.1 i hi).2.2.2 hS rfl dJ0_length_8abf5_4 ?_
  refine lv_aload_n hx hb dJ0_length_8abf5_5 rfl (lv_at hl0 0 rfl) ?_
  refine cVTi (As := []) (rest := [.int (nI (sLen.getD i 0))]) hi X hE hS hl0.1 (c_J0_coder_7d493 l D q aK aV i hi) rfl k_406 mJ0_coder_7d493 ⟨rfl, rfl⟩ ⟨Nat.le_of_ble_eq_true rfl, Nat.le_of_ble_eq_true rfl⟩ rfl rfl (Nat.le_of_ble_eq_true rfl) dJ0_length_8abf5_6 ⟨Nat.zero_le _, Nat.zero_le _⟩ ?_
  refine lv_ishr hx hb dJ0_length_8abf5_9 ?_
  exact eRi X hr hlocks (by rw [s_shr i hi]) dJ0_length_8abf5_10

set_option maxHeartbeats 4000000 in
set_option maxRecDepth 100000 in
theorem c_J3_checkIndex_8e157n (l : Launch) (D : va_G) (q : Nat → ClassId) (x n : Int32) (h0 : ¬ x < 0) (hn : x < n) : Met l yJ3_checkIndex_8e157 (mw yJ3_checkIndex_8e157 cJ3_checkIndex_8e157 3 (some .int)) ({ frames := 0, cells := 0, slots := 0, locals := 0 } : Room) (pcK D q [.int x, .int n, .null]) (vp_Si (fun r => r = x)) 0 0 (fun _ => False) := by
  refine Met.ofW (cc := cJ3_checkIndex_8e157) (maxL := 3) (ret := (some .int)) (by decide) rfl ?_
  intro p e s m args below meth c s₁ B hml hv
  obtain ⟨rfl, hK⟩ := hv
  have hx := B.exec
  have hb := B.bytes
  have hr := B.returns
  have hW := mw_ws (atoms_spec (ws := mw yJ3_checkIndex_8e157 cJ3_checkIndex_8e157 3 (some .int)) B.pre)
  have hown : s.vm.findClass RJ3 = some m.cls := findClass_of_methodNamed B.named
  have hlocks := B.notSynchronized
  have X : Cx p s m [.int x, .int n, .null].toArray c cJ3_checkIndex_8e157 3 RJ3 D q := ⟨hx, hb, hml, hown, hW, hK⟩
  have hS : va_S (fun _ => False) s.heap s.heap [] := va_S.rf
  have hl0 := lv_entry ([.int x, .int n, .null]) (n := 3) (Nat.le_of_ble_eq_true rfl)
  rw [lg_entry_eq]
  generalize (lg_sl ([.int x, .int n, .null]) ++ List.replicate (3 - (lg_sl ([.int x, .int n, .null])).length) Slot.unset).toArray = ls0 at hl0 ⊢
  have hl0 : lv_has ls0 3 [(0, .int x), (1, .int n), (2, .null)] := hl0
  refine lv_iload_n hx hb dJ3_checkIndex_8e157_0 rfl (lv_at hl0 0 rfl) ?_
  refine lv_if_lt (tgt := 9) hx hb dJ3_checkIndex_8e157_1 (by decide) (fun c1 => absurd c1 h0) (fun _ => ?_)
  refine lv_iload_n hx hb dJ3_checkIndex_8e157_4 rfl (lv_at hl0 0 rfl) ?_
  refine lv_iload_n hx hb dJ3_checkIndex_8e157_5 rfl (lv_at hl0 1 rfl) ?_
  refine lv_icmp_lt (tgt := 16) hx hb dJ3_checkIndex_8e157_6 (by decide) (fun _ => ?_) (fun c6 => absurd hn c6)
  refine lv_iload_n hx hb dJ3_checkIndex_8e157_16 rfl (lv_at hl0 0 rfl) ?_
  exact eRi X hr hlocks rfl dJ3_checkIndex_8e157_17

set_option maxHeartbeats 4000000 in
set_option maxRecDepth 100000 in
theorem c_J3_checkIndex_8e157r (l : Launch) (D : va_G) (q : Nat → ClassId) (t : Nat) (x n : Int32) (h0 : ¬ x < 0) (hn : x < n) : Met l yJ3_checkIndex_8e157 (mw yJ3_checkIndex_8e157 cJ3_checkIndex_8e157 3 (some .int)) ({ frames := 0, cells := 0, slots := 0, locals := 0 } : Room) (pcK D q [.int x, .int n, .ref t]) (vp_Si (fun r => r = x)) 0 0 (fun _ => False) := by
  refine Met.ofW (cc := cJ3_checkIndex_8e157) (maxL := 3) (ret := (some .int)) (by decide) rfl ?_
  intro p e s m args below meth c s₁ B hml hv
  obtain ⟨rfl, hK⟩ := hv
  have hx := B.exec
  have hb := B.bytes
  have hr := B.returns
  have hW := mw_ws (atoms_spec (ws := mw yJ3_checkIndex_8e157 cJ3_checkIndex_8e157 3 (some .int)) B.pre)
  have hown : s.vm.findClass RJ3 = some m.cls := findClass_of_methodNamed B.named
  have hlocks := B.notSynchronized
  have X : Cx p s m [.int x, .int n, .ref t].toArray c cJ3_checkIndex_8e157 3 RJ3 D q := ⟨hx, hb, hml, hown, hW, hK⟩
  have hS : va_S (fun _ => False) s.heap s.heap [] := va_S.rf
  have hl0 := lv_entry ([.int x, .int n, .ref t]) (n := 3) (Nat.le_of_ble_eq_true rfl)
  rw [lg_entry_eq]
  generalize (lg_sl ([.int x, .int n, .ref t]) ++ List.replicate (3 - (lg_sl ([.int x, .int n, .ref t])).length) Slot.unset).toArray = ls0 at hl0 ⊢
  have hl0 : lv_has ls0 3 [(0, .int x), (1, .int n), (2, .ref t)] := hl0
  refine lv_iload_n hx hb dJ3_checkIndex_8e157_0 rfl (lv_at hl0 0 rfl) ?_
  refine lv_if_lt (tgt := 9) hx hb dJ3_checkIndex_8e157_1 (by decide) (fun c1 => absurd c1 h0) (fun _ => ?_)
  refine lv_iload_n hx hb dJ3_checkIndex_8e157_4 rfl (lv_at hl0 0 rfl) ?_
  refine lv_iload_n hx hb dJ3_checkIndex_8e157_5 rfl (lv_at hl0 1 rfl) ?_
  refine lv_icmp_lt (tgt := 16) hx hb dJ3_checkIndex_8e157_6 (by decide) (fun _ => ?_) (fun c6 => absurd hn c6)
  refine lv_iload_n hx hb dJ3_checkIndex_8e157_16 rfl (lv_at hl0 0 rfl) ?_
  exact eRi X hr hlocks rfl dJ3_checkIndex_8e157_17

set_option maxHeartbeats 4000000 in
set_option maxRecDepth 100000 in
theorem c_J0_checkIndex_df160 (l : Launch) (D : va_G) (q : Nat → ClassId) (aK aV : Nat → Nat) (x n : Int32) (h0 : ¬ x < 0) (hn : x < n) : Met l yJ0_checkIndex_df160 (mw yJ0_checkIndex_df160 cJ0_checkIndex_df160 2 none) ({ frames := 1, cells := 0, slots := 0, locals := 22 } : Room) (pcT D q aK aV [.int x, .int n]) (va_Sv (fun _ => True)) 0 0 (fun _ => False) := by
  refine Met.ofW (cc := cJ0_checkIndex_df160) (maxL := 2) (ret := none) (by decide) rfl ?_
  intro p e s m args below meth c s₁ B hml hv
  obtain ⟨rfl, hK, hE⟩ := hv
  have hx := B.exec
  have hb := B.bytes
  have hr := B.returns
  have hW := mw_ws (atoms_spec (ws := mw yJ0_checkIndex_df160 cJ0_checkIndex_df160 2 none) B.pre)
  have hown : s.vm.findClass RJ0 = some m.cls := findClass_of_methodNamed B.named
  have hlocks := B.notSynchronized
  have X : Cx p s m [.int x, .int n].toArray c cJ0_checkIndex_df160 2 RJ0 D q := ⟨hx, hb, hml, hown, hW, hK⟩
  have hS : va_S (fun _ => False) s.heap s.heap [] := va_S.rf
  have hl0 := lv_entry ([.int x, .int n]) (n := 2) (Nat.le_of_ble_eq_true rfl)
  rw [lg_entry_eq]
  generalize (lg_sl ([.int x, .int n]) ++ List.replicate (2 - (lg_sl ([.int x, .int n])).length) Slot.unset).toArray = ls0 at hl0 ⊢
  have hl0 : lv_has ls0 2 [(0, .int x), (1, .int n)] := hl0
  refine lv_iload_n hx hb dJ0_checkIndex_df160_0 rfl (lv_at hl0 0 rfl) ?_
  refine lv_iload_n hx hb dJ0_checkIndex_df160_1 rfl (lv_at hl0 1 rfl) ?_
  rcases hE.2.2 with hZ | ⟨t, hZ⟩
  · refine va_gets (v := .null) hx hb hZ hS hown (hW _ k_426) (fun _ h => h) dJ0_checkIndex_df160_2 ?_
    refine vp_callSi (W.runS (As := [.int x, .int n, .null]) (rest := []) (fixOf X) (c_J3_checkIndex_8e157n l D q x n h0 hn) (sOf X k_428 mJ3_checkIndex_8e157 ⟨rfl, rfl⟩ ⟨Nat.le_of_ble_eq_true rfl, Nat.le_of_ble_eq_true rfl⟩) ⟨pcK_blind, fun U hU hWm => ⟨rfl, va_K.moved hWm.alike hK⟩⟩ rfl rfl hl0.1 rfl (lv_room (Nat.le_of_ble_eq_true rfl)) dJ0_checkIndex_df160_5 ⟨Nat.zero_le _, Nat.zero_le _⟩) (fun x hx9 => ?_)
    refine lv_pop hx hb dJ0_checkIndex_df160_8 rfl ?_
    exact eRv X hr hlocks dJ0_checkIndex_df160_9
  · refine va_gets (v := .ref t) hx hb hZ hS hown (hW _ k_426) (fun _ h => h) dJ0_checkIndex_df160_2 ?_
    refine vp_callSi (W.runS (As := [.int x, .int n, .ref t]) (rest := []) (fixOf X) (c_J3_checkIndex_8e157r l D q t x n h0 hn) (sOf X k_428 mJ3_checkIndex_8e157 ⟨rfl, rfl⟩ ⟨Nat.le_of_ble_eq_true rfl, Nat.le_of_ble_eq_true rfl⟩) ⟨pcK_blind, fun U hU hWm => ⟨rfl, va_K.moved hWm.alike hK⟩⟩ rfl rfl hl0.1 rfl (lv_room (Nat.le_of_ble_eq_true rfl)) dJ0_checkIndex_df160_5 ⟨Nat.zero_le _, Nat.zero_le _⟩) (fun x hx9 => ?_)
    refine lv_pop hx hb dJ0_checkIndex_df160_8 rfl ?_
    exact eRv X hr hlocks dJ0_checkIndex_df160_9

theorem s_in {i : Nat} {k : Int32} (hi : i < 9) (hk : inB k (sLen.getD i 0) = true) : ¬ k < 0 ∧ k < nI (sLen.getD i 0) := by
  have h := of_decide_eq_true hk
  have h2 := s_len i hi
  have e : (nI (sLen.getD i 0)).toInt = (sLen.getD i 0 : Int) := nI_toInt (by omega)
  refine ⟨fun q => ?_, ?_⟩
  · have := Int32.lt_iff_toInt_lt.mp q
    simp at this
    omega
  · rw [Int32.lt_iff_toInt_lt, e]
    exact h.2

theorem s_nch {i : Nat} {k : Int32} (hi : i < 9) (hk : inB k (sLen.getD i 0) = true) : narrow .char (.int (sCh i k)) = .int (sCh i k) := by
  have h := of_decide_eq_true hk
  refine s_nar i hi k.toNatClampNeg ?_
  show k.toInt.toNat < _
  omega

set_option maxHeartbeats 4000000 in
set_option maxRecDepth 100000 in
theorem c_J1_charAt_3b067 (l : Launch) (D : va_G) (q : Nat → ClassId) (aK aV : Nat → Nat) (i : Nat) (hi : i < 9) (k : Int32) (hk : inB k (sLen.getD i 0) = true) : Met l yJ1_charAt_3b067 (mw yJ1_charAt_3b067 cJ1_charAt_3b067 2 (some .char)) ({ frames := 2, cells := 0, slots := 0, locals := 43 } : Room) (pcT D q aK aV [.ref (aV i), .int k]) (vp_Si (fun x => x = sCh i k)) 0 0 (fun _ => False) := by
  refine Met.ofW (cc := cJ1_charAt_3b067) (maxL := 2) (ret := (some .char)) (by decide) rfl ?_
  intro p e s m args below meth c s₁ B hml hv
  obtain ⟨rfl, hK, hE⟩ := hv
  have hx := B.exec
  have hb := B.bytes
  have hr := B.returns
  have hW := mw_ws (atoms_spec (ws := mw yJ1_charAt_3b067 cJ1_charAt_3b067 2 (some .char)) B.pre)
  have hown : s.vm.findClass RJ1 = some m.cls := findClass_of_methodNamed B.named
  have hlocks := B.notSynchronized
  have X : Cx p s m [.ref (aV i), .int k].toArray c cJ1_charAt_3b067 2 RJ1 D q := ⟨hx, hb, hml, hown, hW, hK⟩
  have hS : va_S (fun _ => False) s.heap s.heap [] := va_S.rf
  have hl0 := lv_entry ([.ref (aV i), .int k]) (n := 2) (Nat.le_of_ble_eq_true rfl)
  rw [lg_entry_eq]
  generalize (lg_sl ([.ref (aV i), .int k]) ++ List.replicate (2 - (lg_sl ([.ref (aV i), .int k])).length) Slot.unset).toArray = ls0 at hl0 ⊢
  have hl0 : lv_has ls0 2 [(0, .ref (aV i)), (1, .int k)] := hl0
  refine lv_iload_n hx hb dJ1_charAt_3b067_0 rfl (lv_at hl0 1 rfl) ?_
  refine lv_aload_n hx hb dJ1_charAt_3b067_1 rfl (lv_at hl0 0 rfl) ?_
  refine va_tlen (v := nI (sLen.getD i 0)) hx hb (hE.1.1 i hi).2.2.2 hS rfl dJ1_charAt_3b067_2 ?_
  refine cSTv (As := [.int k, .int (nI (sLen.getD i 0))]) (rest := []) X hE hS hl0.1 (c_J0_checkIndex_df160 l D q aK aV k (nI (sLen.getD i 0)) (s_in hi hk).1 (s_in hi hk).2) k_423 mJ0_checkIndex_df160 ⟨rfl, rfl⟩ ⟨Nat.le_of_ble_eq_true rfl, Nat.le_of_ble_eq_true rfl⟩ rfl rfl (Nat.le_of_ble_eq_true rfl) dJ1_charAt_3b067_3 ⟨Nat.zero_le _, Nat.zero_le _⟩ ?_
  refine lv_aload_n hx hb dJ1_charAt_3b067_6 rfl (lv_at hl0 0 rfl) ?_
  refine lv_iload_n hx hb dJ1_charAt_3b067_7 rfl (lv_at hl0 1 rfl) ?_
  refine va_tb (v := .int ((sByt.getD i []).getD k.toNatClampNeg 0)) hx hb (hE.1.1 i hi).2.2.2 hS (inB_vp hk) rfl dJ1_charAt_3b067_8 ?_
  refine lv_sipush (v := (255 : Int32)) hx hb dJ1_charAt_3b067_9 (by decide) ?_
  refine lv_iand hx hb dJ1_charAt_3b067_12 ?_
  refine lv_i2c (v := sCh i k) hx hb dJ1_charAt_3b067_13 rfl ?_
  exact eRz X hr hlocks (s_nch hi hk) rfl dJ1_charAt_3b067_14

set_option maxHeartbeats 4000000 in
set_option maxRecDepth 100000 in
theorem c_J0_charAt_5068e (l : Launch) (D : va_G) (q : Nat → ClassId) (aK aV : Nat → Nat) (i : Nat) (hi : i < 9) (k : Int32) (hk : inB k (sLen.getD i 0) = true) : Met l yJ0_charAt_5068e (mw yJ0_charAt_5068e cJ0_charAt_5068e 2 (some .char)) ({ frames := 3, cells := 0, slots := 0, locals := 64 } : Room) (pcT D q aK aV [.ref (aK i), .int k]) (vp_Si (fun x => x = sCh i k)) 0 0 (fun _ => False) := by
  refine Met.ofW (cc := cJ0_charAt_5068e) (maxL := 2) (ret := (some .char)) (by decide) rfl ?_
  intro p e s m args below meth c s₁ B hml hv
  obtain ⟨rfl, hK, hE⟩ := hv
  have hx := B.exec
  have hb := B.bytes
  have hr := B.returns
  have hW := mw_ws (atoms_spec (ws := mw yJ0_charAt_5068e cJ0_charAt_5068e 2 (some .char)) B.pre)
  have hown : s.vm.findClass RJ0 = some m.cls := findClass_of_methodNamed B.named
  have hlocks := B.notSynchronized
  have X : Cx p s m [.ref (aK i), .int k].toArray c cJ0_charAt_5068e 2 RJ0 D q := ⟨hx, hb, hml, hown, hW, hK⟩
  have hS : va_S (fun _ => False) s.heap s.heap [] := va_S.rf
  have hl0 := lv_entry ([.ref (aK i), .int k]) (n := 2) (Nat.le_of_ble_eq_true rfl)
  rw [lg_entry_eq]
  generalize (lg_sl ([.ref (aK i), .int k]) ++ List.replicate (2 - (lg_sl ([.ref (aK i), .int k])).length) Slot.unset).toArray = ls0 at hl0 ⊢
  have hl0 : lv_has ls0 2 [(0, .ref (aK i)), (1, .int k)] := hl0
  refine lv_aload_n hx hb dJ0_charAt_5068e_0 rfl (lv_at hl0 0 rfl) ?_
  refine cVTi (As := []) (rest := []) hi X hE hS hl0.1 (c_J0_isLatin1_aae02 l D q aK aV i hi) rfl k_416 mJ0_isLatin1_aae02 ⟨rfl, rfl⟩ ⟨Nat.le_of_ble_eq_true rfl, Nat.le_of_ble_eq_true rfl⟩ rfl rfl (Nat.le_of_ble_eq_true rfl) dJ0_charAt_5068e_1 ⟨Nat.zero_le _, Nat.zero_le _⟩ ?_
  refine lv_if_eq (tgt := 16) hx hb dJ0_charAt_5068e_4 (by decide) (fun c3 => absurd c3 (by decide)) (fun _ => ?_)
  refine lv_aload_n hx hb dJ0_charAt_5068e_7 rfl (lv_at hl0 0 rfl) ?_
  refine vk_getf (v := .ref (aV i)) hx hb (hE.1.1 i hi).2.2.1 hS hown (hW _ k_1329) (fun _ h => h) dJ0_charAt_5068e_8 ?_
  refine lv_iload_n hx hb dJ0_charAt_5068e_11 rfl (lv_at hl0 1 rfl) ?_
  refine cSTi (As := [.ref (aV i), .int k]) (rest := []) X hE hS hl0.1 (c_J1_charAt_3b067 l D q aK aV i hi k hk) k_420 mJ1_charAt_3b067 ⟨rfl, rfl⟩ ⟨Nat.le_of_ble_eq_true rfl, Nat.le_of_ble_eq_true rfl⟩ rfl rfl (Nat.le_of_ble_eq_true rfl) dJ0_charAt_5068e_12 ⟨Nat.zero_le _, Nat.zero_le _⟩ ?_
  exact eRz X hr hlocks (s_nch hi hk) rfl dJ0_charAt_5068e_15

