
/-! ===== constructors ===== -/
def z0 : SV := fun _ _ => 0
def ini (l : List Int32) : Nat → Nat → Int32
  | 0 => fun _ => 0
  | k + 1 => upd (ini l k) (Int32.toNatClampNeg (Int32.ofNat k)) (l.getD k 0)
def MI (y : MethodName) (b : ByteArray) (maxL : Nat) (n : Nat) : Prop := Cond.instanceMethod y ∈ WS ∧ Cond.initialized y.cls ∈ WS ∧ Cond.code y b maxL none ∈ WS ∧ y.name = "<init>" ∧ (y.cls ≠ "java/lang/invoke/MethodHandle" ∧ y.cls ≠ "java/lang/invoke/VarHandle" ∧ (parseMethodDescriptor y.desc).map (fun d => d.parameters.length) = some n)
def pcA (D : va_G) (q : Nat → ClassId) (W : va_W) (sz : Nat) (av : List Value) : Array Value → State → Prop := va_Pc av (fun U => U.heap.size = sz ∧ va_P D cls W U.heap ∧ va_K D cls (tyq q) U ∧ va_D (fun _ => True) W ∧ va_AO "PartSitters$Street" U ∧ va_AO "PartSitters$Sheet" U)
theorem pcA_blind {D : va_G} {q : Nat → ClassId} {W : va_W} {sz : Nat} {av : List Value} : FrameBlind (pcA D q W sz av) := fun a U g mk h => by
  obtain ⟨h0, hz, qP, qK, qD, o3, o4⟩ := h
  exact ⟨h0, hz, qP, vaK_call qK, qD, va_AO.moved (u := U) (U := U.calling g mk a) (Vm.Alike.refl U.vm) o3, va_AO.moved (u := U) (U := U.calling g mk a) (Vm.Alike.refl U.vm) o4⟩
section CALLI
variable {p : Program} {l : Launch} {e : Env} {R : Room} {s : State} {m : MethodId} {args : Array Value} {below : List Frame} {meth : Method} {c : Code} {H : Heap} {locs : List Loc} {cells slots : Nat} {Q : State → Prop}
variable {pc : Nat} {ls : Array Slot} {cc : ByteArray} {nL : Nat} {own : String} {D : va_G} {q : Nat → ClassId} {Wd Wc Wr : va_W} {y : MethodName} {b : ByteArray} {maxL n index ci q0 a mc ms : Nat} {rm : Room} {As rest st : List Value} {rc : vw_C} {fs : List Value} {A : Nat → Prop} {H0 : Heap}
theorem cIW {S : Type} {post : S → Prop} {Pc : Array Value → State → Prop} {Wf Wn : S → va_W} (X : Cx p s m args c cc nL own D q) (hP : va_P D cls Wd H) (hD : va_D A Wd) (hS : va_S A H0 H locs) (hA : ∀ z, H0.size ≤ z → A z) (hl : ls.size = nL)
    (hM : Met l y (mw y b maxL none) rm Pc (va_Qv post (bW D q Wc H.size Wf) (va_A Wc H.size)) mc ms (va_A Wc H.size)) (hPcB : FrameBlind Pc) (hPc : ∀ U : State, U.heap = H → s.WarmedH U.vm → U.heap.size = H.size → va_P D cls Wc U.heap → va_K D cls (tyq q) U → va_D (fun _ => True) Wc → Pc (Value.ref a :: As).toArray U)
    (isC isR perm : List Nat) (hC : isC.map (fun i => Wd[i]?) = Wc.map some) (hR' : isR.map (fun i => Wd[i]?) = Wr.map some) (hnC : va_nd isC = true) (hnR : va_nd isR = true) (hdis : ∀ i ∈ isR, i ∉ isC) (hnP : va_nd perm = true) (hperm : ∀ u, perm.map (fun i => (Wr ++ Wf u)[i]?) = (Wn u).map some)
    (k1 : Cond.methodLink own index y ∈ WS) (kM : MI y b maxL n) (hrm : rm.cells = mc ∧ rm.slots = ms) (hR : rm.frames + 1 ≤ R.frames ∧ 8 + (maxL + 11) + rm.locals ≤ R.locals)
    (hn : As.length = n) (hst : st = As.reverse ++ .ref a :: rest) (hroom : (rest.map fun v => v.category).sum ≤ 8) (hdg : decode cc pc = .ok (.invokespecial index, 3)) (hf : cells + mc ≤ R.cells ∧ slots + ms ≤ R.slots)
    (kk : ∀ (u : S) (H1 : Heap) (locs1 : List Loc), post u → va_P D cls (Wn u) H1 → va_D A (Wn u) → va_S A H0 H1 locs1 → W p l e R s m args below meth c H1 locs1 (cells + mc) (slots + ms) Q (F0 m (pc + 3) ls rest)) : W p l e R s m args below meth c H locs cells slots Q (F0 m pc ls st) := by
  have hFc := va_free hD hS hA isC hC
  obtain ⟨k2, k4, k5, ky, kd⟩ := kM
  have hW := X.2.2.2.2.1
  refine va_callv (va_runI (As := As) (rest := rest) (fixOf X) hM (cwI n hW (mw_in k5) rfl hrm.1 hrm.2 (hW _ k4) (hW _ k1) (hW _ k2) ky kd hR) ⟨hPcB, fun U hU hWm => hPc U hU hWm (by rw [hU]) (by rw [hU]; exact hP.sub isC (sub_of_map hC)) (va_K.moved hWm.alike X.2.2.2.2.2) ((hD.sub isC hnC hC).weaken (fun _ _ _ _ => trivial))⟩ rfl hn hl hst (lv_room hroom) hdg hf) hS (fun z _ h => hFc z h) hFc (fun u t H1 locs1 ht hvm hw hB hz1 hk1 hS1 => ?_)
  obtain ⟨hP2, hD2⟩ := joinW hP hD hS hA isC isR perm hC hR' hnR hdis hnP hperm ht hk1 hB
  exact kk u H1 locs1 hw hP2 hD2 hS1
/-- a new row of numbers, of the class that is known -/
theorem r_newa {ty : FieldType} {t0 N : Nat} {nn : Int32} {atype : ArrayType} (X : Cx p s m args c cc nL own D q) (harr : Cond.arrayClass (newarray.typeOf atype) ∈ WS) (hty : newarray.typeOf atype = ty) (ht : (tyq q)[t0]? = some (q t0, ty)) (hne : ∀ C, ty ≠ .object C) (hP : va_P D cls Wd H) (hD : va_D A Wd) (hS : va_S A H0 H locs) (hA : ∀ z, H0.size ≤ z → A z)
    (ha : ∀ cA : ClassId, vp_cell cA (N, .inl (fun _ => 0)) = arrV cA N (fun _ => defaultValue ty)) (hn : ¬ nn < 0) (hN : nn.toNatClampNeg = N) (hbytes : N * componentBytes ty ≤ 536870912) (hcells : cells + 1 ≤ R.cells) (hslots : slots + N ≤ R.slots) (hdg : decode cc pc = .ok (.newarray atype, 2))
    (kk : ∀ (z : Nat) (H1 : Heap), va_P D cls (Wd ++ [(z, .inl (q t0, N, .inl (fun _ => 0)))]) H1 → va_D A (Wd ++ [(z, .inl (q t0, N, .inl (fun _ => 0)))]) → va_S A H0 H1 locs →
      W p l e R s m args below meth c H1 locs (cells + 1) (slots + N) Q (F0 m (pc + 2) ls (.ref z :: rest))) : W p l e R s m args below meth c H locs cells slots Q (F0 m pc ls (.int nn :: rest)) := by
  refine va_newa X.1 X.2.1 (X.2.2.2.2.1 _ harr) hty X.2.2.2.2.2 hP hD hS hA ha hn hN hbytes hcells hslots hdg (fun z cA H1 hK1 hP1 hD1 hS1 => ?_)
  have e : cA = q t0 := by
    have h1 := (X.2.2.2.2.2.2 t0 _ ht).2
    have h2 := (hK1.2 (tyq q).length (cA, ty) (by simp)).2
    cases ty with
    | object C => exact absurd rfl (hne C)
    | _ => exact Option.some.inj ((show s.vm.findClass _ = some cA from h2).symm.trans (show s.vm.findClass _ = some (q t0) from h1))
  subst e
  exact kk z H1 hP1 hD1 hS1
theorem r_newq {C : String} {t0 N : Nat} {nn : Int32} (X : Cx p s m args c cc nL own D q) (hcl : Cond.classLink own index C ∈ WS) (hover : va_AO C s) (ht : (tyq q)[t0]? = some (q t0, .object C)) (hP : va_P D cls Wd H) (hD : va_D A Wd) (hS : va_S A H0 H locs) (hA : ∀ z, H0.size ≤ z → A z)
    (hn : ¬ nn < 0) (hN : nn.toNatClampNeg = N) (hbytes : N * 4 ≤ 536870912) (hcells : cells + 1 ≤ R.cells) (hslots : slots + N ≤ R.slots) (hdg : decode cc pc = .ok (.anewarray index, 3))
    (kk : ∀ (z : Nat) (H1 : Heap), va_P D cls (Wd ++ [(z, .inl (q t0, N, .inr (.inr (.inr (.inr (fun _ => none))))))]) H1 → va_D A (Wd ++ [(z, .inl (q t0, N, .inr (.inr (.inr (.inr (fun _ => none))))))]) → va_S A H0 H1 locs →
      W p l e R s m args below meth c H1 locs (cells + 1) (slots + N) Q (F0 m (pc + 3) ls (.ref z :: rest))) : W p l e R s m args below meth c H locs cells slots Q (F0 m pc ls (.int nn :: rest)) := by
  refine va_newq X.1 X.2.1 X.2.2.2.1 (X.2.2.2.2.1 _ hcl) hover X.2.2.2.2.2 hP hD hS hA hn hN hbytes hcells hslots hdg (fun z cA H1 hK1 hP1 hD1 hS1 => ?_)
  have e : cA = q t0 := by
    obtain ⟨-, -, -, -, -, h1⟩ := (X.2.2.2.2.2.2 t0 _ ht).2
    obtain ⟨-, -, -, -, -, h2⟩ := (hK1.2 (tyq q).length (cA, .object C) (by simp)).2
    exact Option.some.inj (h2.symm.trans h1)
  subst e
  exact kk z H1 hP1 hD1 hS1
theorem eIv {S : Type} {Wf : S → va_W} {u : S} {post : S → Prop} (X : Cx p s m args c cc nL own D q) (hr : meth.sig.returnType = none) (hlocks : meth.locks = false) (hP : va_P D cls (Wf u) H) (hD : va_D (va_A Wd s.heap.size) (Wf u)) (hS : va_S (va_A Wd s.heap.size) s.heap H locs) (hm : post u) (hdg : decode cc pc = .ok (.return_, 1)) : W p l e R s m args below meth c H locs cells slots (MQ below (va_Qv post (bW D q Wd s.heap.size Wf) (va_A Wd s.heap.size)) args s cells slots (va_A Wd s.heap.size)) (F0 m pc ls []) :=
  W.vret X.1 X.2.1 hr (fun t ht hW => ⟨⟨u, rfl, hm, by rw [ht]; exact hP, va_K.moved hW.alike X.2.2.2.2.2, hD⟩, hS.F ht⟩) hS.2.2 hdg
end CALLI

theorem mX1_init : MI yX1_init cX1_init 1 0 := ⟨k_223, k_44, k_224, rfl, by decide +kernel⟩
set_option maxHeartbeats 4000000 in
set_option maxRecDepth 100000 in
theorem c_X1_init (l : Launch) (D : va_G) (q : Nat → ClassId) (sz h0 : Nat) : Met l yX1_init (mw yX1_init cX1_init 1 none) ({ frames := 1, cells := 3, slots := 18, locals := 12 } : Room) (pcW D q ([(h0, .inr (1, [.int 0, .null, .null, .null]))]) sz [.ref h0]) (va_Qv (fun (u : Nat → Nat) => u 99 = h0) (bW D q ([(h0, .inr (1, [.int 0, .null, .null, .null]))]) sz (fun (u : Nat → Nat) => wX1 q u z0)) (va_A ([(h0, .inr (1, [.int 0, .null, .null, .null]))]) sz)) 3 18 (va_A ([(h0, .inr (1, [.int 0, .null, .null, .null]))]) sz) := by
  refine Met.ofW (cc := cX1_init) (maxL := 1) (ret := none) (by decide) rfl ?_
  intro p e s m args below meth c s₁ B hml hv
  obtain ⟨rfl, hsz, hP0, hK, hD0⟩ := hv
  have hx := B.exec
  have hb := B.bytes
  have hr := B.returns
  have hW := mw_ws (atoms_spec (ws := mw yX1_init cX1_init 1 none) B.pre)
  have hown : s.vm.findClass RX1 = some m.cls := findClass_of_methodNamed B.named
  have hlocks := B.notSynchronized
  have hin : meth.name = "<init>" := (name_of_methodNamed B.named B.method).1
  have X : Cx p s m [.ref h0].toArray c cX1_init 1 RX1 D q := ⟨hx, hb, hml, hown, hW, hK⟩
  subst hsz
  replace hD0 := hD0.self (sz := s.heap.size)
  have hS0 : va_S (va_A ([(h0, .inr (1, [.int 0, .null, .null, .null]))]) s.heap.size) s.heap s.heap [] := va_S.rf
  have hl0 := lv_entry ([.ref h0]) (n := 1) (Nat.le_of_ble_eq_true rfl)
  rw [lg_entry_eq]
  generalize (lg_sl ([.ref h0]) ++ List.replicate (1 - (lg_sl ([.ref h0])).length) Slot.unset).toArray = ls0 at hl0 ⊢
  have hl0 : lv_has ls0 1 [(0, .ref h0)] := hl0
  refine lv_aload_n hx hb dX1_init_0 rfl (lv_at hl0 0 rfl) ?_
  refine W.objInit hx hb hown (hW _ k_225) (hW _ k_61) (hW _ k_62) rfl (by rw [hml]; exact hl0.1) rfl dX1_init_1 (Nat.le_of_ble_eq_true rfl) (Nat.le_of_ble_eq_true rfl) ?_
  refine W.eq (g2 := F0 m 4 _ []) rfl ?_
  refine lv_aload_n hx hb dX1_init_4 rfl (lv_at hl0 0 rfl) ?_
  refine lv_iconst (v := (0 : Int32)) hx hb dX1_init_5 (by decide) ?_
  refine va_put (D := D) (ci := 1) (v := .int (0 : Int32)) (ty := .int) (C := RX1) (T := TX1) (N := 4) hx hb hW iX1 tyX1 tyX1_ok nmX1 hown hK hP0 hD0 hS0 0 rfl rfl 0 (by decide) (hW _ k_226) (fun _ h => h) rfl (by decide +kernel) rfl rfl (Nat.le_of_ble_eq_true rfl) dX1_init_6 (fun H1 locs1 hP hD hS1 => ?_)
  have hP1 : va_P D cls ([(h0, .inr (1, [.int (0 : Int32), .null, .null, .null]))]) H1 := hP
  have hD1 : va_D (va_A ([(h0, .inr (1, [.int 0, .null, .null, .null]))]) s.heap.size) ([(h0, .inr (1, [.int (0 : Int32), .null, .null, .null]))]) := hD
  clear hP hD hP0 hD0 hS0
  refine lv_aload_n hx hb dX1_init_9 rfl (lv_at hl0 0 rfl) ?_
  refine lv_bipush (v := (6 : Int32)) hx hb dX1_init_10 (by decide) ?_
  refine r_newa (atype := .int) (ty := .int) (t0 := 0) (N := 6) (nn := (6 : Int32)) X k_173 rfl rfl (fun _ h => by cases h) hP1 hD1 hS1 (fun _ h => Or.inr h) (fun _ => rfl) (by decide) (by decide) (by decide) (Nat.le_of_ble_eq_true rfl) (Nat.le_of_ble_eq_true rfl) dX1_init_12 (fun z2 H2 hP hD hS2 => ?_)
  have hP2 : va_P D cls ([(h0, .inr (1, [.int (0 : Int32), .null, .null, .null])), (z2, .inl (q 0, 6, .inl (fun _ => 0)))]) H2 := hP
  have hD2 : va_D (va_A ([(h0, .inr (1, [.int 0, .null, .null, .null]))]) s.heap.size) ([(h0, .inr (1, [.int (0 : Int32), .null, .null, .null])), (z2, .inl (q 0, 6, .inl (fun _ => 0)))]) := hD
  clear hP hD hP1 hD1 hS1
  refine W.widen (k := 1) (n := 6) (Nat.le_of_ble_eq_true rfl) (Nat.le_of_ble_eq_true rfl) ?_
  refine va_putF (D := D) (ci := 1) (v := .ref z2) (ty := (.array .int)) (C := RX1) (T := TX1) (N := 4) hx hb hW iX1 tyX1 tyX1_ok nmX1 hown hK hP2 hD2 hS2 0 rfl rfl 1 (by decide) (hW _ k_229) (fun _ h => h) rfl hin rfl (by decide +kernel) rfl rfl (Nat.le_of_ble_eq_true rfl) dX1_init_14 (fun H3 locs3 hP hD hS3 => ?_)
  have hP3 : va_P D cls ([(h0, .inr (1, [.int (0 : Int32), .ref z2, .null, .null])), (z2, .inl (q 0, 6, .inl (fun _ => 0)))]) H3 := hP
  have hD3 : va_D (va_A ([(h0, .inr (1, [.int 0, .null, .null, .null]))]) s.heap.size) ([(h0, .inr (1, [.int (0 : Int32), .ref z2, .null, .null])), (z2, .inl (q 0, 6, .inl (fun _ => 0)))]) := hD
  clear hP hD hP2 hD2 hS2
  refine lv_aload_n hx hb dX1_init_17 rfl (lv_at hl0 0 rfl) ?_
  refine lv_bipush (v := (6 : Int32)) hx hb dX1_init_18 (by decide) ?_
  refine r_newa (atype := .int) (ty := .int) (t0 := 0) (N := 6) (nn := (6 : Int32)) X k_173 rfl rfl (fun _ h => by cases h) hP3 hD3 hS3 (fun _ h => Or.inr h) (fun _ => rfl) (by decide) (by decide) (by decide) (Nat.le_of_ble_eq_true rfl) (Nat.le_of_ble_eq_true rfl) dX1_init_20 (fun z4 H4 hP hD hS4 => ?_)
  have hP4 : va_P D cls ([(h0, .inr (1, [.int (0 : Int32), .ref z2, .null, .null])), (z2, .inl (q 0, 6, .inl (fun _ => 0))), (z4, .inl (q 0, 6, .inl (fun _ => 0)))]) H4 := hP
  have hD4 : va_D (va_A ([(h0, .inr (1, [.int 0, .null, .null, .null]))]) s.heap.size) ([(h0, .inr (1, [.int (0 : Int32), .ref z2, .null, .null])), (z2, .inl (q 0, 6, .inl (fun _ => 0))), (z4, .inl (q 0, 6, .inl (fun _ => 0)))]) := hD
  clear hP hD hP3 hD3 hS3
  refine W.widen (k := 2) (n := 12) (Nat.le_of_ble_eq_true rfl) (Nat.le_of_ble_eq_true rfl) ?_
  refine va_putF (D := D) (ci := 1) (v := .ref z4) (ty := (.array .int)) (C := RX1) (T := TX1) (N := 4) hx hb hW iX1 tyX1 tyX1_ok nmX1 hown hK hP4 hD4 hS4 0 rfl rfl 2 (by decide) (hW _ k_231) (fun _ h => h) rfl hin rfl (by decide +kernel) rfl rfl (Nat.le_of_ble_eq_true rfl) dX1_init_22 (fun H5 locs5 hP hD hS5 => ?_)
  have hP5 : va_P D cls ([(h0, .inr (1, [.int (0 : Int32), .ref z2, .ref z4, .null])), (z2, .inl (q 0, 6, .inl (fun _ => 0))), (z4, .inl (q 0, 6, .inl (fun _ => 0)))]) H5 := hP
  have hD5 : va_D (va_A ([(h0, .inr (1, [.int 0, .null, .null, .null]))]) s.heap.size) ([(h0, .inr (1, [.int (0 : Int32), .ref z2, .ref z4, .null])), (z2, .inl (q 0, 6, .inl (fun _ => 0))), (z4, .inl (q 0, 6, .inl (fun _ => 0)))]) := hD
  clear hP hD hP4 hD4 hS4
  refine lv_aload_n hx hb dX1_init_25 rfl (lv_at hl0 0 rfl) ?_
  refine lv_bipush (v := (6 : Int32)) hx hb dX1_init_26 (by decide) ?_
  refine r_newa (atype := .boolean) (ty := .boolean) (t0 := 2) (N := 6) (nn := (6 : Int32)) X k_244 rfl rfl (fun _ h => by cases h) hP5 hD5 hS5 (fun _ h => Or.inr h) (fun _ => rfl) (by decide) (by decide) (by decide) (Nat.le_of_ble_eq_true rfl) (Nat.le_of_ble_eq_true rfl) dX1_init_28 (fun z6 H6 hP hD hS6 => ?_)
  have hP6 : va_P D cls ([(h0, .inr (1, [.int (0 : Int32), .ref z2, .ref z4, .null])), (z2, .inl (q 0, 6, .inl (fun _ => 0))), (z4, .inl (q 0, 6, .inl (fun _ => 0))), (z6, .inl (q 2, 6, .inl (fun _ => 0)))]) H6 := hP
  have hD6 : va_D (va_A ([(h0, .inr (1, [.int 0, .null, .null, .null]))]) s.heap.size) ([(h0, .inr (1, [.int (0 : Int32), .ref z2, .ref z4, .null])), (z2, .inl (q 0, 6, .inl (fun _ => 0))), (z4, .inl (q 0, 6, .inl (fun _ => 0))), (z6, .inl (q 2, 6, .inl (fun _ => 0)))]) := hD
  clear hP hD hP5 hD5 hS5
  refine W.widen (k := 3) (n := 18) (Nat.le_of_ble_eq_true rfl) (Nat.le_of_ble_eq_true rfl) ?_
  refine va_putF (D := D) (ci := 1) (v := .ref z6) (ty := (.array .boolean)) (C := RX1) (T := TX1) (N := 4) hx hb hW iX1 tyX1 tyX1_ok nmX1 hown hK hP6 hD6 hS6 0 rfl rfl 3 (by decide) (hW _ k_233) (fun _ h => h) rfl hin rfl (by decide +kernel) rfl rfl (Nat.le_of_ble_eq_true rfl) dX1_init_30 (fun H7 locs7 hP hD hS7 => ?_)
  have hP7 : va_P D cls ([(h0, .inr (1, [.int (0 : Int32), .ref z2, .ref z4, .ref z6])), (z2, .inl (q 0, 6, .inl (fun _ => 0))), (z4, .inl (q 0, 6, .inl (fun _ => 0))), (z6, .inl (q 2, 6, .inl (fun _ => 0)))]) H7 := hP
  have hD7 : va_D (va_A ([(h0, .inr (1, [.int 0, .null, .null, .null]))]) s.heap.size) ([(h0, .inr (1, [.int (0 : Int32), .ref z2, .ref z4, .ref z6])), (z2, .inl (q 0, 6, .inl (fun _ => 0))), (z4, .inl (q 0, 6, .inl (fun _ => 0))), (z6, .inl (q 2, 6, .inl (fun _ => 0)))]) := hD
  clear hP hD hP6 hD6 hS6
  exact eIv (Wf := fun (u : Nat → Nat) => wX1 q u z0) (u := (fun k => bif Nat.beq k 99 then h0 else bif Nat.beq k 1 then z2 else bif Nat.beq k 2 then z4 else bif Nat.beq k 3 then z6 else 0)) X hr hlocks hP7 hD7 hS7 rfl dX1_init_33

theorem mX2_init : MI yX2_init cX2_init 1 0 := ⟨k_293, k_46, k_294, rfl, by decide +kernel⟩
set_option maxHeartbeats 4000000 in
set_option maxRecDepth 100000 in
theorem c_X2_init (l : Launch) (D : va_G) (q : Nat → ClassId) (sz h0 : Nat) : Met l yX2_init (mw yX2_init cX2_init 1 none) ({ frames := 1, cells := 1, slots := 40, locals := 12 } : Room) (pcW D q ([(h0, .inr (2, [.int 0, .int 0, .null]))]) sz [.ref h0]) (va_Qv (fun (u : Nat → Nat) => u 99 = h0) (bW D q ([(h0, .inr (2, [.int 0, .int 0, .null]))]) sz (fun (u : Nat → Nat) => wX2 q u (up2 z0 0 1 (-1 : Int32)))) (va_A ([(h0, .inr (2, [.int 0, .int 0, .null]))]) sz)) 1 40 (va_A ([(h0, .inr (2, [.int 0, .int 0, .null]))]) sz) := by
  refine Met.ofW (cc := cX2_init) (maxL := 1) (ret := none) (by decide) rfl ?_
  intro p e s m args below meth c s₁ B hml hv
  obtain ⟨rfl, hsz, hP0, hK, hD0⟩ := hv
  have hx := B.exec
  have hb := B.bytes
  have hr := B.returns
  have hW := mw_ws (atoms_spec (ws := mw yX2_init cX2_init 1 none) B.pre)
  have hown : s.vm.findClass RX2 = some m.cls := findClass_of_methodNamed B.named
  have hlocks := B.notSynchronized
  have hin : meth.name = "<init>" := (name_of_methodNamed B.named B.method).1
  have X : Cx p s m [.ref h0].toArray c cX2_init 1 RX2 D q := ⟨hx, hb, hml, hown, hW, hK⟩
  subst hsz
  replace hD0 := hD0.self (sz := s.heap.size)
  have hS0 : va_S (va_A ([(h0, .inr (2, [.int 0, .int 0, .null]))]) s.heap.size) s.heap s.heap [] := va_S.rf
  have hl0 := lv_entry ([.ref h0]) (n := 1) (Nat.le_of_ble_eq_true rfl)
  rw [lg_entry_eq]
  generalize (lg_sl ([.ref h0]) ++ List.replicate (1 - (lg_sl ([.ref h0])).length) Slot.unset).toArray = ls0 at hl0 ⊢
  have hl0 : lv_has ls0 1 [(0, .ref h0)] := hl0
  refine lv_aload_n hx hb dX2_init_0 rfl (lv_at hl0 0 rfl) ?_
  refine W.objInit hx hb hown (hW _ k_295) (hW _ k_61) (hW _ k_62) rfl (by rw [hml]; exact hl0.1) rfl dX2_init_1 (Nat.le_of_ble_eq_true rfl) (Nat.le_of_ble_eq_true rfl) ?_
  refine W.eq (g2 := F0 m 4 _ []) rfl ?_
  refine lv_aload_n hx hb dX2_init_4 rfl (lv_at hl0 0 rfl) ?_
  refine lv_iconst (v := (0 : Int32)) hx hb dX2_init_5 (by decide) ?_
  refine va_put (D := D) (ci := 2) (v := .int (0 : Int32)) (ty := .int) (C := RX2) (T := TX2) (N := 3) hx hb hW iX2 tyX2 tyX2_ok nmX2 hown hK hP0 hD0 hS0 0 rfl rfl 0 (by decide) (hW _ k_296) (fun _ h => h) rfl (by decide +kernel) rfl rfl (Nat.le_of_ble_eq_true rfl) dX2_init_6 (fun H1 locs1 hP hD hS1 => ?_)
  have hP1 : va_P D cls ([(h0, .inr (2, [.int (0 : Int32), .int 0, .null]))]) H1 := hP
  have hD1 : va_D (va_A ([(h0, .inr (2, [.int 0, .int 0, .null]))]) s.heap.size) ([(h0, .inr (2, [.int (0 : Int32), .int 0, .null]))]) := hD
  clear hP hD hP0 hD0 hS0
  refine lv_aload_n hx hb dX2_init_9 rfl (lv_at hl0 0 rfl) ?_
  refine lv_iconst (v := (-1 : Int32)) hx hb dX2_init_10 (by decide) ?_
  refine va_put (D := D) (ci := 2) (v := .int (-1 : Int32)) (ty := .int) (C := RX2) (T := TX2) (N := 3) hx hb hW iX2 tyX2 tyX2_ok nmX2 hown hK hP1 hD1 hS1 0 rfl rfl 1 (by decide) (hW _ k_297) (fun _ h => h) rfl (by decide +kernel) rfl rfl (Nat.le_of_ble_eq_true rfl) dX2_init_11 (fun H2 locs2 hP hD hS2 => ?_)
  have hP2 : va_P D cls ([(h0, .inr (2, [.int (0 : Int32), .int (-1 : Int32), .null]))]) H2 := hP
  have hD2 : va_D (va_A ([(h0, .inr (2, [.int 0, .int 0, .null]))]) s.heap.size) ([(h0, .inr (2, [.int (0 : Int32), .int (-1 : Int32), .null]))]) := hD
  clear hP hD hP1 hD1 hS1
  refine lv_aload_n hx hb dX2_init_14 rfl (lv_at hl0 0 rfl) ?_
  refine lv_bipush (v := (40 : Int32)) hx hb dX2_init_15 (by decide) ?_
  refine r_newa (atype := .int) (ty := .int) (t0 := 0) (N := 40) (nn := (40 : Int32)) X k_173 rfl rfl (fun _ h => by cases h) hP2 hD2 hS2 (fun _ h => Or.inr h) (fun _ => rfl) (by decide) (by decide) (by decide) (Nat.le_of_ble_eq_true rfl) (Nat.le_of_ble_eq_true rfl) dX2_init_17 (fun z3 H3 hP hD hS3 => ?_)
  have hP3 : va_P D cls ([(h0, .inr (2, [.int (0 : Int32), .int (-1 : Int32), .null])), (z3, .inl (q 0, 40, .inl (fun _ => 0)))]) H3 := hP
  have hD3 : va_D (va_A ([(h0, .inr (2, [.int 0, .int 0, .null]))]) s.heap.size) ([(h0, .inr (2, [.int (0 : Int32), .int (-1 : Int32), .null])), (z3, .inl (q 0, 40, .inl (fun _ => 0)))]) := hD
  clear hP hD hP2 hD2 hS2
  refine W.widen (k := 1) (n := 40) (Nat.le_of_ble_eq_true rfl) (Nat.le_of_ble_eq_true rfl) ?_
  refine va_putF (D := D) (ci := 2) (v := .ref z3) (ty := (.array .int)) (C := RX2) (T := TX2) (N := 3) hx hb hW iX2 tyX2 tyX2_ok nmX2 hown hK hP3 hD3 hS3 0 rfl rfl 2 (by decide) (hW _ k_299) (fun _ h => h) rfl hin rfl (by decide +kernel) rfl rfl (Nat.le_of_ble_eq_true rfl) dX2_init_19 (fun H4 locs4 hP hD hS4 => ?_)
  have hP4 : va_P D cls ([(h0, .inr (2, [.int (0 : Int32), .int (-1 : Int32), .ref z3])), (z3, .inl (q 0, 40, .inl (fun _ => 0)))]) H4 := hP
  have hD4 : va_D (va_A ([(h0, .inr (2, [.int 0, .int 0, .null]))]) s.heap.size) ([(h0, .inr (2, [.int (0 : Int32), .int (-1 : Int32), .ref z3])), (z3, .inl (q 0, 40, .inl (fun _ => 0)))]) := hD
  clear hP hD hP3 hD3 hS3
  exact eIv (Wf := fun (u : Nat → Nat) => wX2 q u (up2 z0 0 1 (-1 : Int32))) (u := (fun k => bif Nat.beq k 99 then h0 else bif Nat.beq k 2 then z3 else 0)) X hr hlocks hP4 hD4 hS4 rfl dX2_init_22

theorem mX3_init : MI yX3_init cX3_init 1 0 := ⟨k_72, k_42, k_73, rfl, by decide +kernel⟩
set_option maxHeartbeats 4000000 in
set_option maxRecDepth 100000 in
theorem c_X3_init (l : Launch) (D : va_G) (q : Nat → ClassId) (sz h0 : Nat) (res : SV) (hm : m_X3_clear z0 = some res) : Met l yX3_init (mw yX3_init cX3_init 1 none) ({ frames := 2, cells := 11, slots := 75, locals := 43 } : Room) (pcW D q ([(h0, .inr (3, [.int 0, .int 0, .int 0, .int 0, .int 0, .int 0, .null, .null, .null, .null, .null, .null, .null, .null, .null, .null, .null]))]) sz [.ref h0]) (va_Qv (fun (u : Nat → Nat) => u 99 = h0) (bW D q ([(h0, .inr (3, [.int 0, .int 0, .int 0, .int 0, .int 0, .int 0, .null, .null, .null, .null, .null, .null, .null, .null, .null, .null, .null]))]) sz (fun (u : Nat → Nat) => wX3 q u res)) (va_A ([(h0, .inr (3, [.int 0, .int 0, .int 0, .int 0, .int 0, .int 0, .null, .null, .null, .null, .null, .null, .null, .null, .null, .null, .null]))]) sz)) 11 75 (va_A ([(h0, .inr (3, [.int 0, .int 0, .int 0, .int 0, .int 0, .int 0, .null, .null, .null, .null, .null, .null, .null, .null, .null, .null, .null]))]) sz) := by
  refine Met.ofW (cc := cX3_init) (maxL := 1) (ret := none) (by decide) rfl ?_
  intro p e s m args below meth c s₁ B hml hv
  obtain ⟨rfl, hsz, hP0, hK, hD0⟩ := hv
  have hx := B.exec
  have hb := B.bytes
  have hr := B.returns
  have hW := mw_ws (atoms_spec (ws := mw yX3_init cX3_init 1 none) B.pre)
  have hown : s.vm.findClass RX3 = some m.cls := findClass_of_methodNamed B.named
  have hlocks := B.notSynchronized
  have hin : meth.name = "<init>" := (name_of_methodNamed B.named B.method).1
  have X : Cx p s m [.ref h0].toArray c cX3_init 1 RX3 D q := ⟨hx, hb, hml, hown, hW, hK⟩
  subst hsz
  replace hD0 := hD0.self (sz := s.heap.size)
  have hS0 : va_S (va_A ([(h0, .inr (3, [.int 0, .int 0, .int 0, .int 0, .int 0, .int 0, .null, .null, .null, .null, .null, .null, .null, .null, .null, .null, .null]))]) s.heap.size) s.heap s.heap [] := va_S.rf
  have hl0 := lv_entry ([.ref h0]) (n := 1) (Nat.le_of_ble_eq_true rfl)
  rw [lg_entry_eq]
  generalize (lg_sl ([.ref h0]) ++ List.replicate (1 - (lg_sl ([.ref h0])).length) Slot.unset).toArray = ls0 at hl0 ⊢
  have hl0 : lv_has ls0 1 [(0, .ref h0)] := hl0
  refine lv_aload_n hx hb dX3_init_0 rfl (lv_at hl0 0 rfl) ?_
  refine W.objInit hx hb hown (hW _ k_74) (hW _ k_61) (hW _ k_62) rfl (by rw [hml]; exact hl0.1) rfl dX3_init_1 (Nat.le_of_ble_eq_true rfl) (Nat.le_of_ble_eq_true rfl) ?_
  refine W.eq (g2 := F0 m 4 _ []) rfl ?_
  refine lv_aload_n hx hb dX3_init_4 rfl (lv_at hl0 0 rfl) ?_
  refine lv_bipush (v := (6 : Int32)) hx hb dX3_init_5 (by decide) ?_
  refine r_newa (atype := .int) (ty := .int) (t0 := 0) (N := 6) (nn := (6 : Int32)) X k_173 rfl rfl (fun _ h => by cases h) hP0 hD0 hS0 (fun _ h => Or.inr h) (fun _ => rfl) (by decide) (by decide) (by decide) (Nat.le_of_ble_eq_true rfl) (Nat.le_of_ble_eq_true rfl) dX3_init_7 (fun z1 H1 hP hD hS1 => ?_)
  have hP1 : va_P D cls ([(h0, .inr (3, [.int 0, .int 0, .int 0, .int 0, .int 0, .int 0, .null, .null, .null, .null, .null, .null, .null, .null, .null, .null, .null])), (z1, .inl (q 0, 6, .inl (fun _ => 0)))]) H1 := hP
  have hD1 : va_D (va_A ([(h0, .inr (3, [.int 0, .int 0, .int 0, .int 0, .int 0, .int 0, .null, .null, .null, .null, .null, .null, .null, .null, .null, .null, .null]))]) s.heap.size) ([(h0, .inr (3, [.int 0, .int 0, .int 0, .int 0, .int 0, .int 0, .null, .null, .null, .null, .null, .null, .null, .null, .null, .null, .null])), (z1, .inl (q 0, 6, .inl (fun _ => 0)))]) := hD
  clear hP hD hP0 hD0 hS0
  refine W.widen (k := 1) (n := 6) (Nat.le_of_ble_eq_true rfl) (Nat.le_of_ble_eq_true rfl) ?_
  refine va_putF (D := D) (ci := 3) (v := .ref z1) (ty := (.array .int)) (C := RX3) (T := TX3) (N := 17) hx hb hW iX3 tyX3 tyX3_ok nmX3 hown hK hP1 hD1 hS1 0 rfl rfl 6 (by decide) (hW _ k_101) (fun _ h => h) rfl hin rfl (by decide +kernel) rfl rfl (Nat.le_of_ble_eq_true rfl) dX3_init_9 (fun H2 locs2 hP hD hS2 => ?_)
  have hP2 : va_P D cls ([(h0, .inr (3, [.int 0, .int 0, .int 0, .int 0, .int 0, .int 0, .ref z1, .null, .null, .null, .null, .null, .null, .null, .null, .null, .null])), (z1, .inl (q 0, 6, .inl (fun _ => 0)))]) H2 := hP
  have hD2 : va_D (va_A ([(h0, .inr (3, [.int 0, .int 0, .int 0, .int 0, .int 0, .int 0, .null, .null, .null, .null, .null, .null, .null, .null, .null, .null, .null]))]) s.heap.size) ([(h0, .inr (3, [.int 0, .int 0, .int 0, .int 0, .int 0, .int 0, .ref z1, .null, .null, .null, .null, .null, .null, .null, .null, .null, .null])), (z1, .inl (q 0, 6, .inl (fun _ => 0)))]) := hD
  clear hP hD hP1 hD1 hS1
  refine lv_aload_n hx hb dX3_init_12 rfl (lv_at hl0 0 rfl) ?_
  refine lv_bipush (v := (6 : Int32)) hx hb dX3_init_13 (by decide) ?_
  refine r_newa (atype := .int) (ty := .int) (t0 := 0) (N := 6) (nn := (6 : Int32)) X k_173 rfl rfl (fun _ h => by cases h) hP2 hD2 hS2 (fun _ h => Or.inr h) (fun _ => rfl) (by decide) (by decide) (by decide) (Nat.le_of_ble_eq_true rfl) (Nat.le_of_ble_eq_true rfl) dX3_init_15 (fun z3 H3 hP hD hS3 => ?_)
  have hP3 : va_P D cls ([(h0, .inr (3, [.int 0, .int 0, .int 0, .int 0, .int 0, .int 0, .ref z1, .null, .null, .null, .null, .null, .null, .null, .null, .null, .null])), (z1, .inl (q 0, 6, .inl (fun _ => 0))), (z3, .inl (q 0, 6, .inl (fun _ => 0)))]) H3 := hP
  have hD3 : va_D (va_A ([(h0, .inr (3, [.int 0, .int 0, .int 0, .int 0, .int 0, .int 0, .null, .null, .null, .null, .null, .null, .null, .null, .null, .null, .null]))]) s.heap.size) ([(h0, .inr (3, [.int 0, .int 0, .int 0, .int 0, .int 0, .int 0, .ref z1, .null, .null, .null, .null, .null, .null, .null, .null, .null, .null])), (z1, .inl (q 0, 6, .inl (fun _ => 0))), (z3, .inl (q 0, 6, .inl (fun _ => 0)))]) := hD
  clear hP hD hP2 hD2 hS2
  refine W.widen (k := 2) (n := 12) (Nat.le_of_ble_eq_true rfl) (Nat.le_of_ble_eq_true rfl) ?_
  refine va_putF (D := D) (ci := 3) (v := .ref z3) (ty := (.array .int)) (C := RX3) (T := TX3) (N := 17) hx hb hW iX3 tyX3 tyX3_ok nmX3 hown hK hP3 hD3 hS3 0 rfl rfl 7 (by decide) (hW _ k_105) (fun _ h => h) rfl hin rfl (by decide +kernel) rfl rfl (Nat.le_of_ble_eq_true rfl) dX3_init_17 (fun H4 locs4 hP hD hS4 => ?_)
  have hP4 : va_P D cls ([(h0, .inr (3, [.int 0, .int 0, .int 0, .int 0, .int 0, .int 0, .ref z1, .ref z3, .null, .null, .null, .null, .null, .null, .null, .null, .null])), (z1, .inl (q 0, 6, .inl (fun _ => 0))), (z3, .inl (q 0, 6, .inl (fun _ => 0)))]) H4 := hP
  have hD4 : va_D (va_A ([(h0, .inr (3, [.int 0, .int 0, .int 0, .int 0, .int 0, .int 0, .null, .null, .null, .null, .null, .null, .null, .null, .null, .null, .null]))]) s.heap.size) ([(h0, .inr (3, [.int 0, .int 0, .int 0, .int 0, .int 0, .int 0, .ref z1, .ref z3, .null, .null, .null, .null, .null, .null, .null, .null, .null])), (z1, .inl (q 0, 6, .inl (fun _ => 0))), (z3, .inl (q 0, 6, .inl (fun _ => 0)))]) := hD
  clear hP hD hP3 hD3 hS3
  refine lv_aload_n hx hb dX3_init_20 rfl (lv_at hl0 0 rfl) ?_
  refine lv_bipush (v := (24 : Int32)) hx hb dX3_init_21 (by decide) ?_
  refine r_newa (atype := .int) (ty := .int) (t0 := 0) (N := 24) (nn := (24 : Int32)) X k_173 rfl rfl (fun _ h => by cases h) hP4 hD4 hS4 (fun _ h => Or.inr h) (fun _ => rfl) (by decide) (by decide) (by decide) (Nat.le_of_ble_eq_true rfl) (Nat.le_of_ble_eq_true rfl) dX3_init_23 (fun z5 H5 hP hD hS5 => ?_)
  have hP5 : va_P D cls ([(h0, .inr (3, [.int 0, .int 0, .int 0, .int 0, .int 0, .int 0, .ref z1, .ref z3, .null, .null, .null, .null, .null, .null, .null, .null, .null])), (z1, .inl (q 0, 6, .inl (fun _ => 0))), (z3, .inl (q 0, 6, .inl (fun _ => 0))), (z5, .inl (q 0, 24, .inl (fun _ => 0)))]) H5 := hP
  have hD5 : va_D (va_A ([(h0, .inr (3, [.int 0, .int 0, .int 0, .int 0, .int 0, .int 0, .null, .null, .null, .null, .null, .null, .null, .null, .null, .null, .null]))]) s.heap.size) ([(h0, .inr (3, [.int 0, .int 0, .int 0, .int 0, .int 0, .int 0, .ref z1, .ref z3, .null, .null, .null, .null, .null, .null, .null, .null, .null])), (z1, .inl (q 0, 6, .inl (fun _ => 0))), (z3, .inl (q 0, 6, .inl (fun _ => 0))), (z5, .inl (q 0, 24, .inl (fun _ => 0)))]) := hD
  clear hP hD hP4 hD4 hS4
  refine W.widen (k := 3) (n := 36) (Nat.le_of_ble_eq_true rfl) (Nat.le_of_ble_eq_true rfl) ?_
  refine va_putF (D := D) (ci := 3) (v := .ref z5) (ty := (.array .int)) (C := RX3) (T := TX3) (N := 17) hx hb hW iX3 tyX3 tyX3_ok nmX3 hown hK hP5 hD5 hS5 0 rfl rfl 8 (by decide) (hW _ k_108) (fun _ h => h) rfl hin rfl (by decide +kernel) rfl rfl (Nat.le_of_ble_eq_true rfl) dX3_init_25 (fun H6 locs6 hP hD hS6 => ?_)
  have hP6 : va_P D cls ([(h0, .inr (3, [.int 0, .int 0, .int 0, .int 0, .int 0, .int 0, .ref z1, .ref z3, .ref z5, .null, .null, .null, .null, .null, .null, .null, .null])), (z1, .inl (q 0, 6, .inl (fun _ => 0))), (z3, .inl (q 0, 6, .inl (fun _ => 0))), (z5, .inl (q 0, 24, .inl (fun _ => 0)))]) H6 := hP
  have hD6 : va_D (va_A ([(h0, .inr (3, [.int 0, .int 0, .int 0, .int 0, .int 0, .int 0, .null, .null, .null, .null, .null, .null, .null, .null, .null, .null, .null]))]) s.heap.size) ([(h0, .inr (3, [.int 0, .int 0, .int 0, .int 0, .int 0, .int 0, .ref z1, .ref z3, .ref z5, .null, .null, .null, .null, .null, .null, .null, .null])), (z1, .inl (q 0, 6, .inl (fun _ => 0))), (z3, .inl (q 0, 6, .inl (fun _ => 0))), (z5, .inl (q 0, 24, .inl (fun _ => 0)))]) := hD
  clear hP hD hP5 hD5 hS5
  refine lv_aload_n hx hb dX3_init_28 rfl (lv_at hl0 0 rfl) ?_
  refine lv_iconst (v := (5 : Int32)) hx hb dX3_init_29 (by decide) ?_
  refine r_newa (atype := .int) (ty := .int) (t0 := 0) (N := 5) (nn := (5 : Int32)) X k_173 rfl rfl (fun _ h => by cases h) hP6 hD6 hS6 (fun _ h => Or.inr h) (fun _ => rfl) (by decide) (by decide) (by decide) (Nat.le_of_ble_eq_true rfl) (Nat.le_of_ble_eq_true rfl) dX3_init_30 (fun z7 H7 hP hD hS7 => ?_)
  have hP7 : va_P D cls ([(h0, .inr (3, [.int 0, .int 0, .int 0, .int 0, .int 0, .int 0, .ref z1, .ref z3, .ref z5, .null, .null, .null, .null, .null, .null, .null, .null])), (z1, .inl (q 0, 6, .inl (fun _ => 0))), (z3, .inl (q 0, 6, .inl (fun _ => 0))), (z5, .inl (q 0, 24, .inl (fun _ => 0))), (z7, .inl (q 0, 5, .inl (fun _ => 0)))]) H7 := hP
  have hD7 : va_D (va_A ([(h0, .inr (3, [.int 0, .int 0, .int 0, .int 0, .int 0, .int 0, .null, .null, .null, .null, .null, .null, .null, .null, .null, .null, .null]))]) s.heap.size) ([(h0, .inr (3, [.int 0, .int 0, .int 0, .int 0, .int 0, .int 0, .ref z1, .ref z3, .ref z5, .null, .null, .null, .null, .null, .null, .null, .null])), (z1, .inl (q 0, 6, .inl (fun _ => 0))), (z3, .inl (q 0, 6, .inl (fun _ => 0))), (z5, .inl (q 0, 24, .inl (fun _ => 0))), (z7, .inl (q 0, 5, .inl (fun _ => 0)))]) := hD
  clear hP hD hP6 hD6 hS6
  refine W.widen (k := 4) (n := 41) (Nat.le_of_ble_eq_true rfl) (Nat.le_of_ble_eq_true rfl) ?_
  refine va_putF (D := D) (ci := 3) (v := .ref z7) (ty := (.array .int)) (C := RX3) (T := TX3) (N := 17) hx hb hW iX3 tyX3 tyX3_ok nmX3 hown hK hP7 hD7 hS7 0 rfl rfl 9 (by decide) (hW _ k_110) (fun _ h => h) rfl hin rfl (by decide +kernel) rfl rfl (Nat.le_of_ble_eq_true rfl) dX3_init_32 (fun H8 locs8 hP hD hS8 => ?_)
  have hP8 : va_P D cls ([(h0, .inr (3, [.int 0, .int 0, .int 0, .int 0, .int 0, .int 0, .ref z1, .ref z3, .ref z5, .ref z7, .null, .null, .null, .null, .null, .null, .null])), (z1, .inl (q 0, 6, .inl (fun _ => 0))), (z3, .inl (q 0, 6, .inl (fun _ => 0))), (z5, .inl (q 0, 24, .inl (fun _ => 0))), (z7, .inl (q 0, 5, .inl (fun _ => 0)))]) H8 := hP
  have hD8 : va_D (va_A ([(h0, .inr (3, [.int 0, .int 0, .int 0, .int 0, .int 0, .int 0, .null, .null, .null, .null, .null, .null, .null, .null, .null, .null, .null]))]) s.heap.size) ([(h0, .inr (3, [.int 0, .int 0, .int 0, .int 0, .int 0, .int 0, .ref z1, .ref z3, .ref z5, .ref z7, .null, .null, .null, .null, .null, .null, .null])), (z1, .inl (q 0, 6, .inl (fun _ => 0))), (z3, .inl (q 0, 6, .inl (fun _ => 0))), (z5, .inl (q 0, 24, .inl (fun _ => 0))), (z7, .inl (q 0, 5, .inl (fun _ => 0)))]) := hD
  clear hP hD hP7 hD7 hS7
  refine lv_aload_n hx hb dX3_init_35 rfl (lv_at hl0 0 rfl) ?_
  refine lv_iconst (v := (5 : Int32)) hx hb dX3_init_36 (by decide) ?_
  refine r_newa (atype := .int) (ty := .int) (t0 := 0) (N := 5) (nn := (5 : Int32)) X k_173 rfl rfl (fun _ h => by cases h) hP8 hD8 hS8 (fun _ h => Or.inr h) (fun _ => rfl) (by decide) (by decide) (by decide) (Nat.le_of_ble_eq_true rfl) (Nat.le_of_ble_eq_true rfl) dX3_init_37 (fun z9 H9 hP hD hS9 => ?_)
  have hP9 : va_P D cls ([(h0, .inr (3, [.int 0, .int 0, .int 0, .int 0, .int 0, .int 0, .ref z1, .ref z3, .ref z5, .ref z7, .null, .null, .null, .null, .null, .null, .null])), (z1, .inl (q 0, 6, .inl (fun _ => 0))), (z3, .inl (q 0, 6, .inl (fun _ => 0))), (z5, .inl (q 0, 24, .inl (fun _ => 0))), (z7, .inl (q 0, 5, .inl (fun _ => 0))), (z9, .inl (q 0, 5, .inl (fun _ => 0)))]) H9 := hP
  have hD9 : va_D (va_A ([(h0, .inr (3, [.int 0, .int 0, .int 0, .int 0, .int 0, .int 0, .null, .null, .null, .null, .null, .null, .null, .null, .null, .null, .null]))]) s.heap.size) ([(h0, .inr (3, [.int 0, .int 0, .int 0, .int 0, .int 0, .int 0, .ref z1, .ref z3, .ref z5, .ref z7, .null, .null, .null, .null, .null, .null, .null])), (z1, .inl (q 0, 6, .inl (fun _ => 0))), (z3, .inl (q 0, 6, .inl (fun _ => 0))), (z5, .inl (q 0, 24, .inl (fun _ => 0))), (z7, .inl (q 0, 5, .inl (fun _ => 0))), (z9, .inl (q 0, 5, .inl (fun _ => 0)))]) := hD
  clear hP hD hP8 hD8 hS8
  refine W.widen (k := 5) (n := 46) (Nat.le_of_ble_eq_true rfl) (Nat.le_of_ble_eq_true rfl) ?_
  refine va_putF (D := D) (ci := 3) (v := .ref z9) (ty := (.array .int)) (C := RX3) (T := TX3) (N := 17) hx hb hW iX3 tyX3 tyX3_ok nmX3 hown hK hP9 hD9 hS9 0 rfl rfl 10 (by decide) (hW _ k_113) (fun _ h => h) rfl hin rfl (by decide +kernel) rfl rfl (Nat.le_of_ble_eq_true rfl) dX3_init_39 (fun H10 locs10 hP hD hS10 => ?_)
  have hP10 : va_P D cls ([(h0, .inr (3, [.int 0, .int 0, .int 0, .int 0, .int 0, .int 0, .ref z1, .ref z3, .ref z5, .ref z7, .ref z9, .null, .null, .null, .null, .null, .null])), (z1, .inl (q 0, 6, .inl (fun _ => 0))), (z3, .inl (q 0, 6, .inl (fun _ => 0))), (z5, .inl (q 0, 24, .inl (fun _ => 0))), (z7, .inl (q 0, 5, .inl (fun _ => 0))), (z9, .inl (q 0, 5, .inl (fun _ => 0)))]) H10 := hP
  have hD10 : va_D (va_A ([(h0, .inr (3, [.int 0, .int 0, .int 0, .int 0, .int 0, .int 0, .null, .null, .null, .null, .null, .null, .null, .null, .null, .null, .null]))]) s.heap.size) ([(h0, .inr (3, [.int 0, .int 0, .int 0, .int 0, .int 0, .int 0, .ref z1, .ref z3, .ref z5, .ref z7, .ref z9, .null, .null, .null, .null, .null, .null])), (z1, .inl (q 0, 6, .inl (fun _ => 0))), (z3, .inl (q 0, 6, .inl (fun _ => 0))), (z5, .inl (q 0, 24, .inl (fun _ => 0))), (z7, .inl (q 0, 5, .inl (fun _ => 0))), (z9, .inl (q 0, 5, .inl (fun _ => 0)))]) := hD
  clear hP hD hP9 hD9 hS9
  refine lv_aload_n hx hb dX3_init_42 rfl (lv_at hl0 0 rfl) ?_
  refine lv_iconst (v := (5 : Int32)) hx hb dX3_init_43 (by decide) ?_
  refine r_newa (atype := .int) (ty := .int) (t0 := 0) (N := 5) (nn := (5 : Int32)) X k_173 rfl rfl (fun _ h => by cases h) hP10 hD10 hS10 (fun _ h => Or.inr h) (fun _ => rfl) (by decide) (by decide) (by decide) (Nat.le_of_ble_eq_true rfl) (Nat.le_of_ble_eq_true rfl) dX3_init_44 (fun z11 H11 hP hD hS11 => ?_)
  have hP11 : va_P D cls ([(h0, .inr (3, [.int 0, .int 0, .int 0, .int 0, .int 0, .int 0, .ref z1, .ref z3, .ref z5, .ref z7, .ref z9, .null, .null, .null, .null, .null, .null])), (z1, .inl (q 0, 6, .inl (fun _ => 0))), (z3, .inl (q 0, 6, .inl (fun _ => 0))), (z5, .inl (q 0, 24, .inl (fun _ => 0))), (z7, .inl (q 0, 5, .inl (fun _ => 0))), (z9, .inl (q 0, 5, .inl (fun _ => 0))), (z11, .inl (q 0, 5, .inl (fun _ => 0)))]) H11 := hP
  have hD11 : va_D (va_A ([(h0, .inr (3, [.int 0, .int 0, .int 0, .int 0, .int 0, .int 0, .null, .null, .null, .null, .null, .null, .null, .null, .null, .null, .null]))]) s.heap.size) ([(h0, .inr (3, [.int 0, .int 0, .int 0, .int 0, .int 0, .int 0, .ref z1, .ref z3, .ref z5, .ref z7, .ref z9, .null, .null, .null, .null, .null, .null])), (z1, .inl (q 0, 6, .inl (fun _ => 0))), (z3, .inl (q 0, 6, .inl (fun _ => 0))), (z5, .inl (q 0, 24, .inl (fun _ => 0))), (z7, .inl (q 0, 5, .inl (fun _ => 0))), (z9, .inl (q 0, 5, .inl (fun _ => 0))), (z11, .inl (q 0, 5, .inl (fun _ => 0)))]) := hD
  clear hP hD hP10 hD10 hS10
  refine W.widen (k := 6) (n := 51) (Nat.le_of_ble_eq_true rfl) (Nat.le_of_ble_eq_true rfl) ?_
  refine va_putF (D := D) (ci := 3) (v := .ref z11) (ty := (.array .int)) (C := RX3) (T := TX3) (N := 17) hx hb hW iX3 tyX3 tyX3_ok nmX3 hown hK hP11 hD11 hS11 0 rfl rfl 11 (by decide) (hW _ k_116) (fun _ h => h) rfl hin rfl (by decide +kernel) rfl rfl (Nat.le_of_ble_eq_true rfl) dX3_init_46 (fun H12 locs12 hP hD hS12 => ?_)
  have hP12 : va_P D cls ([(h0, .inr (3, [.int 0, .int 0, .int 0, .int 0, .int 0, .int 0, .ref z1, .ref z3, .ref z5, .ref z7, .ref z9, .ref z11, .null, .null, .null, .null, .null])), (z1, .inl (q 0, 6, .inl (fun _ => 0))), (z3, .inl (q 0, 6, .inl (fun _ => 0))), (z5, .inl (q 0, 24, .inl (fun _ => 0))), (z7, .inl (q 0, 5, .inl (fun _ => 0))), (z9, .inl (q 0, 5, .inl (fun _ => 0))), (z11, .inl (q 0, 5, .inl (fun _ => 0)))]) H12 := hP
  have hD12 : va_D (va_A ([(h0, .inr (3, [.int 0, .int 0, .int 0, .int 0, .int 0, .int 0, .null, .null, .null, .null, .null, .null, .null, .null, .null, .null, .null]))]) s.heap.size) ([(h0, .inr (3, [.int 0, .int 0, .int 0, .int 0, .int 0, .int 0, .ref z1, .ref z3, .ref z5, .ref z7, .ref z9, .ref z11, .null, .null, .null, .null, .null])), (z1, .inl (q 0, 6, .inl (fun _ => 0))), (z3, .inl (q 0, 6, .inl (fun _ => 0))), (z5, .inl (q 0, 24, .inl (fun _ => 0))), (z7, .inl (q 0, 5, .inl (fun _ => 0))), (z9, .inl (q 0, 5, .inl (fun _ => 0))), (z11, .inl (q 0, 5, .inl (fun _ => 0)))]) := hD
  clear hP hD hP11 hD11 hS11
  refine lv_aload_n hx hb dX3_init_49 rfl (lv_at hl0 0 rfl) ?_
  refine lv_iconst (v := (5 : Int32)) hx hb dX3_init_50 (by decide) ?_
  refine r_newa (atype := .int) (ty := .int) (t0 := 0) (N := 5) (nn := (5 : Int32)) X k_173 rfl rfl (fun _ h => by cases h) hP12 hD12 hS12 (fun _ h => Or.inr h) (fun _ => rfl) (by decide) (by decide) (by decide) (Nat.le_of_ble_eq_true rfl) (Nat.le_of_ble_eq_true rfl) dX3_init_51 (fun z13 H13 hP hD hS13 => ?_)
  have hP13 : va_P D cls ([(h0, .inr (3, [.int 0, .int 0, .int 0, .int 0, .int 0, .int 0, .ref z1, .ref z3, .ref z5, .ref z7, .ref z9, .ref z11, .null, .null, .null, .null, .null])), (z1, .inl (q 0, 6, .inl (fun _ => 0))), (z3, .inl (q 0, 6, .inl (fun _ => 0))), (z5, .inl (q 0, 24, .inl (fun _ => 0))), (z7, .inl (q 0, 5, .inl (fun _ => 0))), (z9, .inl (q 0, 5, .inl (fun _ => 0))), (z11, .inl (q 0, 5, .inl (fun _ => 0))), (z13, .inl (q 0, 5, .inl (fun _ => 0)))]) H13 := hP
  have hD13 : va_D (va_A ([(h0, .inr (3, [.int 0, .int 0, .int 0, .int 0, .int 0, .int 0, .null, .null, .null, .null, .null, .null, .null, .null, .null, .null, .null]))]) s.heap.size) ([(h0, .inr (3, [.int 0, .int 0, .int 0, .int 0, .int 0, .int 0, .ref z1, .ref z3, .ref z5, .ref z7, .ref z9, .ref z11, .null, .null, .null, .null, .null])), (z1, .inl (q 0, 6, .inl (fun _ => 0))), (z3, .inl (q 0, 6, .inl (fun _ => 0))), (z5, .inl (q 0, 24, .inl (fun _ => 0))), (z7, .inl (q 0, 5, .inl (fun _ => 0))), (z9, .inl (q 0, 5, .inl (fun _ => 0))), (z11, .inl (q 0, 5, .inl (fun _ => 0))), (z13, .inl (q 0, 5, .inl (fun _ => 0)))]) := hD
  clear hP hD hP12 hD12 hS12
  refine W.widen (k := 7) (n := 56) (Nat.le_of_ble_eq_true rfl) (Nat.le_of_ble_eq_true rfl) ?_
  refine va_putF (D := D) (ci := 3) (v := .ref z13) (ty := (.array .int)) (C := RX3) (T := TX3) (N := 17) hx hb hW iX3 tyX3 tyX3_ok nmX3 hown hK hP13 hD13 hS13 0 rfl rfl 12 (by decide) (hW _ k_120) (fun _ h => h) rfl hin rfl (by decide +kernel) rfl rfl (Nat.le_of_ble_eq_true rfl) dX3_init_53 (fun H14 locs14 hP hD hS14 => ?_)
  have hP14 : va_P D cls ([(h0, .inr (3, [.int 0, .int 0, .int 0, .int 0, .int 0, .int 0, .ref z1, .ref z3, .ref z5, .ref z7, .ref z9, .ref z11, .ref z13, .null, .null, .null, .null])), (z1, .inl (q 0, 6, .inl (fun _ => 0))), (z3, .inl (q 0, 6, .inl (fun _ => 0))), (z5, .inl (q 0, 24, .inl (fun _ => 0))), (z7, .inl (q 0, 5, .inl (fun _ => 0))), (z9, .inl (q 0, 5, .inl (fun _ => 0))), (z11, .inl (q 0, 5, .inl (fun _ => 0))), (z13, .inl (q 0, 5, .inl (fun _ => 0)))]) H14 := hP
  have hD14 : va_D (va_A ([(h0, .inr (3, [.int 0, .int 0, .int 0, .int 0, .int 0, .int 0, .null, .null, .null, .null, .null, .null, .null, .null, .null, .null, .null]))]) s.heap.size) ([(h0, .inr (3, [.int 0, .int 0, .int 0, .int 0, .int 0, .int 0, .ref z1, .ref z3, .ref z5, .ref z7, .ref z9, .ref z11, .ref z13, .null, .null, .null, .null])), (z1, .inl (q 0, 6, .inl (fun _ => 0))), (z3, .inl (q 0, 6, .inl (fun _ => 0))), (z5, .inl (q 0, 24, .inl (fun _ => 0))), (z7, .inl (q 0, 5, .inl (fun _ => 0))), (z9, .inl (q 0, 5, .inl (fun _ => 0))), (z11, .inl (q 0, 5, .inl (fun _ => 0))), (z13, .inl (q 0, 5, .inl (fun _ => 0)))]) := hD
  clear hP hD hP13 hD13 hS13
  refine lv_aload_n hx hb dX3_init_56 rfl (lv_at hl0 0 rfl) ?_
  refine lv_iconst (v := (5 : Int32)) hx hb dX3_init_57 (by decide) ?_
  refine r_newa (atype := .int) (ty := .int) (t0 := 0) (N := 5) (nn := (5 : Int32)) X k_173 rfl rfl (fun _ h => by cases h) hP14 hD14 hS14 (fun _ h => Or.inr h) (fun _ => rfl) (by decide) (by decide) (by decide) (Nat.le_of_ble_eq_true rfl) (Nat.le_of_ble_eq_true rfl) dX3_init_58 (fun z15 H15 hP hD hS15 => ?_)
  have hP15 : va_P D cls ([(h0, .inr (3, [.int 0, .int 0, .int 0, .int 0, .int 0, .int 0, .ref z1, .ref z3, .ref z5, .ref z7, .ref z9, .ref z11, .ref z13, .null, .null, .null, .null])), (z1, .inl (q 0, 6, .inl (fun _ => 0))), (z3, .inl (q 0, 6, .inl (fun _ => 0))), (z5, .inl (q 0, 24, .inl (fun _ => 0))), (z7, .inl (q 0, 5, .inl (fun _ => 0))), (z9, .inl (q 0, 5, .inl (fun _ => 0))), (z11, .inl (q 0, 5, .inl (fun _ => 0))), (z13, .inl (q 0, 5, .inl (fun _ => 0))), (z15, .inl (q 0, 5, .inl (fun _ => 0)))]) H15 := hP
  have hD15 : va_D (va_A ([(h0, .inr (3, [.int 0, .int 0, .int 0, .int 0, .int 0, .int 0, .null, .null, .null, .null, .null, .null, .null, .null, .null, .null, .null]))]) s.heap.size) ([(h0, .inr (3, [.int 0, .int 0, .int 0, .int 0, .int 0, .int 0, .ref z1, .ref z3, .ref z5, .ref z7, .ref z9, .ref z11, .ref z13, .null, .null, .null, .null])), (z1, .inl (q 0, 6, .inl (fun _ => 0))), (z3, .inl (q 0, 6, .inl (fun _ => 0))), (z5, .inl (q 0, 24, .inl (fun _ => 0))), (z7, .inl (q 0, 5, .inl (fun _ => 0))), (z9, .inl (q 0, 5, .inl (fun _ => 0))), (z11, .inl (q 0, 5, .inl (fun _ => 0))), (z13, .inl (q 0, 5, .inl (fun _ => 0))), (z15, .inl (q 0, 5, .inl (fun _ => 0)))]) := hD
  clear hP hD hP14 hD14 hS14
  refine W.widen (k := 8) (n := 61) (Nat.le_of_ble_eq_true rfl) (Nat.le_of_ble_eq_true rfl) ?_
  refine va_putF (D := D) (ci := 3) (v := .ref z15) (ty := (.array .int)) (C := RX3) (T := TX3) (N := 17) hx hb hW iX3 tyX3 tyX3_ok nmX3 hown hK hP15 hD15 hS15 0 rfl rfl 13 (by decide) (hW _ k_123) (fun _ h => h) rfl hin rfl (by decide +kernel) rfl rfl (Nat.le_of_ble_eq_true rfl) dX3_init_60 (fun H16 locs16 hP hD hS16 => ?_)
  have hP16 : va_P D cls ([(h0, .inr (3, [.int 0, .int 0, .int 0, .int 0, .int 0, .int 0, .ref z1, .ref z3, .ref z5, .ref z7, .ref z9, .ref z11, .ref z13, .ref z15, .null, .null, .null])), (z1, .inl (q 0, 6, .inl (fun _ => 0))), (z3, .inl (q 0, 6, .inl (fun _ => 0))), (z5, .inl (q 0, 24, .inl (fun _ => 0))), (z7, .inl (q 0, 5, .inl (fun _ => 0))), (z9, .inl (q 0, 5, .inl (fun _ => 0))), (z11, .inl (q 0, 5, .inl (fun _ => 0))), (z13, .inl (q 0, 5, .inl (fun _ => 0))), (z15, .inl (q 0, 5, .inl (fun _ => 0)))]) H16 := hP
  have hD16 : va_D (va_A ([(h0, .inr (3, [.int 0, .int 0, .int 0, .int 0, .int 0, .int 0, .null, .null, .null, .null, .null, .null, .null, .null, .null, .null, .null]))]) s.heap.size) ([(h0, .inr (3, [.int 0, .int 0, .int 0, .int 0, .int 0, .int 0, .ref z1, .ref z3, .ref z5, .ref z7, .ref z9, .ref z11, .ref z13, .ref z15, .null, .null, .null])), (z1, .inl (q 0, 6, .inl (fun _ => 0))), (z3, .inl (q 0, 6, .inl (fun _ => 0))), (z5, .inl (q 0, 24, .inl (fun _ => 0))), (z7, .inl (q 0, 5, .inl (fun _ => 0))), (z9, .inl (q 0, 5, .inl (fun _ => 0))), (z11, .inl (q 0, 5, .inl (fun _ => 0))), (z13, .inl (q 0, 5, .inl (fun _ => 0))), (z15, .inl (q 0, 5, .inl (fun _ => 0)))]) := hD
  clear hP hD hP15 hD15 hS15
  refine lv_aload_n hx hb dX3_init_63 rfl (lv_at hl0 0 rfl) ?_
  refine lv_iconst (v := (5 : Int32)) hx hb dX3_init_64 (by decide) ?_
  refine r_newa (atype := .int) (ty := .int) (t0 := 0) (N := 5) (nn := (5 : Int32)) X k_173 rfl rfl (fun _ h => by cases h) hP16 hD16 hS16 (fun _ h => Or.inr h) (fun _ => rfl) (by decide) (by decide) (by decide) (Nat.le_of_ble_eq_true rfl) (Nat.le_of_ble_eq_true rfl) dX3_init_65 (fun z17 H17 hP hD hS17 => ?_)
  have hP17 : va_P D cls ([(h0, .inr (3, [.int 0, .int 0, .int 0, .int 0, .int 0, .int 0, .ref z1, .ref z3, .ref z5, .ref z7, .ref z9, .ref z11, .ref z13, .ref z15, .null, .null, .null])), (z1, .inl (q 0, 6, .inl (fun _ => 0))), (z3, .inl (q 0, 6, .inl (fun _ => 0))), (z5, .inl (q 0, 24, .inl (fun _ => 0))), (z7, .inl (q 0, 5, .inl (fun _ => 0))), (z9, .inl (q 0, 5, .inl (fun _ => 0))), (z11, .inl (q 0, 5, .inl (fun _ => 0))), (z13, .inl (q 0, 5, .inl (fun _ => 0))), (z15, .inl (q 0, 5, .inl (fun _ => 0))), (z17, .inl (q 0, 5, .inl (fun _ => 0)))]) H17 := hP
  have hD17 : va_D (va_A ([(h0, .inr (3, [.int 0, .int 0, .int 0, .int 0, .int 0, .int 0, .null, .null, .null, .null, .null, .null, .null, .null, .null, .null, .null]))]) s.heap.size) ([(h0, .inr (3, [.int 0, .int 0, .int 0, .int 0, .int 0, .int 0, .ref z1, .ref z3, .ref z5, .ref z7, .ref z9, .ref z11, .ref z13, .ref z15, .null, .null, .null])), (z1, .inl (q 0, 6, .inl (fun _ => 0))), (z3, .inl (q 0, 6, .inl (fun _ => 0))), (z5, .inl (q 0, 24, .inl (fun _ => 0))), (z7, .inl (q 0, 5, .inl (fun _ => 0))), (z9, .inl (q 0, 5, .inl (fun _ => 0))), (z11, .inl (q 0, 5, .inl (fun _ => 0))), (z13, .inl (q 0, 5, .inl (fun _ => 0))), (z15, .inl (q 0, 5, .inl (fun _ => 0))), (z17, .inl (q 0, 5, .inl (fun _ => 0)))]) := hD
  clear hP hD hP16 hD16 hS16
  refine W.widen (k := 9) (n := 66) (Nat.le_of_ble_eq_true rfl) (Nat.le_of_ble_eq_true rfl) ?_
  refine va_putF (D := D) (ci := 3) (v := .ref z17) (ty := (.array .int)) (C := RX3) (T := TX3) (N := 17) hx hb hW iX3 tyX3 tyX3_ok nmX3 hown hK hP17 hD17 hS17 0 rfl rfl 14 (by decide) (hW _ k_126) (fun _ h => h) rfl hin rfl (by decide +kernel) rfl rfl (Nat.le_of_ble_eq_true rfl) dX3_init_67 (fun H18 locs18 hP hD hS18 => ?_)
  have hP18 : va_P D cls ([(h0, .inr (3, [.int 0, .int 0, .int 0, .int 0, .int 0, .int 0, .ref z1, .ref z3, .ref z5, .ref z7, .ref z9, .ref z11, .ref z13, .ref z15, .ref z17, .null, .null])), (z1, .inl (q 0, 6, .inl (fun _ => 0))), (z3, .inl (q 0, 6, .inl (fun _ => 0))), (z5, .inl (q 0, 24, .inl (fun _ => 0))), (z7, .inl (q 0, 5, .inl (fun _ => 0))), (z9, .inl (q 0, 5, .inl (fun _ => 0))), (z11, .inl (q 0, 5, .inl (fun _ => 0))), (z13, .inl (q 0, 5, .inl (fun _ => 0))), (z15, .inl (q 0, 5, .inl (fun _ => 0))), (z17, .inl (q 0, 5, .inl (fun _ => 0)))]) H18 := hP
  have hD18 : va_D (va_A ([(h0, .inr (3, [.int 0, .int 0, .int 0, .int 0, .int 0, .int 0, .null, .null, .null, .null, .null, .null, .null, .null, .null, .null, .null]))]) s.heap.size) ([(h0, .inr (3, [.int 0, .int 0, .int 0, .int 0, .int 0, .int 0, .ref z1, .ref z3, .ref z5, .ref z7, .ref z9, .ref z11, .ref z13, .ref z15, .ref z17, .null, .null])), (z1, .inl (q 0, 6, .inl (fun _ => 0))), (z3, .inl (q 0, 6, .inl (fun _ => 0))), (z5, .inl (q 0, 24, .inl (fun _ => 0))), (z7, .inl (q 0, 5, .inl (fun _ => 0))), (z9, .inl (q 0, 5, .inl (fun _ => 0))), (z11, .inl (q 0, 5, .inl (fun _ => 0))), (z13, .inl (q 0, 5, .inl (fun _ => 0))), (z15, .inl (q 0, 5, .inl (fun _ => 0))), (z17, .inl (q 0, 5, .inl (fun _ => 0)))]) := hD
  clear hP hD hP17 hD17 hS17
  refine lv_aload_n hx hb dX3_init_70 rfl (lv_at hl0 0 rfl) ?_
  refine lv_iconst (v := (5 : Int32)) hx hb dX3_init_71 (by decide) ?_
  refine r_newa (atype := .int) (ty := .int) (t0 := 0) (N := 5) (nn := (5 : Int32)) X k_173 rfl rfl (fun _ h => by cases h) hP18 hD18 hS18 (fun _ h => Or.inr h) (fun _ => rfl) (by decide) (by decide) (by decide) (Nat.le_of_ble_eq_true rfl) (Nat.le_of_ble_eq_true rfl) dX3_init_72 (fun z19 H19 hP hD hS19 => ?_)
  have hP19 : va_P D cls ([(h0, .inr (3, [.int 0, .int 0, .int 0, .int 0, .int 0, .int 0, .ref z1, .ref z3, .ref z5, .ref z7, .ref z9, .ref z11, .ref z13, .ref z15, .ref z17, .null, .null])), (z1, .inl (q 0, 6, .inl (fun _ => 0))), (z3, .inl (q 0, 6, .inl (fun _ => 0))), (z5, .inl (q 0, 24, .inl (fun _ => 0))), (z7, .inl (q 0, 5, .inl (fun _ => 0))), (z9, .inl (q 0, 5, .inl (fun _ => 0))), (z11, .inl (q 0, 5, .inl (fun _ => 0))), (z13, .inl (q 0, 5, .inl (fun _ => 0))), (z15, .inl (q 0, 5, .inl (fun _ => 0))), (z17, .inl (q 0, 5, .inl (fun _ => 0))), (z19, .inl (q 0, 5, .inl (fun _ => 0)))]) H19 := hP
  have hD19 : va_D (va_A ([(h0, .inr (3, [.int 0, .int 0, .int 0, .int 0, .int 0, .int 0, .null, .null, .null, .null, .null, .null, .null, .null, .null, .null, .null]))]) s.heap.size) ([(h0, .inr (3, [.int 0, .int 0, .int 0, .int 0, .int 0, .int 0, .ref z1, .ref z3, .ref z5, .ref z7, .ref z9, .ref z11, .ref z13, .ref z15, .ref z17, .null, .null])), (z1, .inl (q 0, 6, .inl (fun _ => 0))), (z3, .inl (q 0, 6, .inl (fun _ => 0))), (z5, .inl (q 0, 24, .inl (fun _ => 0))), (z7, .inl (q 0, 5, .inl (fun _ => 0))), (z9, .inl (q 0, 5, .inl (fun _ => 0))), (z11, .inl (q 0, 5, .inl (fun _ => 0))), (z13, .inl (q 0, 5, .inl (fun _ => 0))), (z15, .inl (q 0, 5, .inl (fun _ => 0))), (z17, .inl (q 0, 5, .inl (fun _ => 0))), (z19, .inl (q 0, 5, .inl (fun _ => 0)))]) := hD
  clear hP hD hP18 hD18 hS18
  refine W.widen (k := 10) (n := 71) (Nat.le_of_ble_eq_true rfl) (Nat.le_of_ble_eq_true rfl) ?_
  refine va_putF (D := D) (ci := 3) (v := .ref z19) (ty := (.array .int)) (C := RX3) (T := TX3) (N := 17) hx hb hW iX3 tyX3 tyX3_ok nmX3 hown hK hP19 hD19 hS19 0 rfl rfl 15 (by decide) (hW _ k_130) (fun _ h => h) rfl hin rfl (by decide +kernel) rfl rfl (Nat.le_of_ble_eq_true rfl) dX3_init_74 (fun H20 locs20 hP hD hS20 => ?_)
  have hP20 : va_P D cls ([(h0, .inr (3, [.int 0, .int 0, .int 0, .int 0, .int 0, .int 0, .ref z1, .ref z3, .ref z5, .ref z7, .ref z9, .ref z11, .ref z13, .ref z15, .ref z17, .ref z19, .null])), (z1, .inl (q 0, 6, .inl (fun _ => 0))), (z3, .inl (q 0, 6, .inl (fun _ => 0))), (z5, .inl (q 0, 24, .inl (fun _ => 0))), (z7, .inl (q 0, 5, .inl (fun _ => 0))), (z9, .inl (q 0, 5, .inl (fun _ => 0))), (z11, .inl (q 0, 5, .inl (fun _ => 0))), (z13, .inl (q 0, 5, .inl (fun _ => 0))), (z15, .inl (q 0, 5, .inl (fun _ => 0))), (z17, .inl (q 0, 5, .inl (fun _ => 0))), (z19, .inl (q 0, 5, .inl (fun _ => 0)))]) H20 := hP
  have hD20 : va_D (va_A ([(h0, .inr (3, [.int 0, .int 0, .int 0, .int 0, .int 0, .int 0, .null, .null, .null, .null, .null, .null, .null, .null, .null, .null, .null]))]) s.heap.size) ([(h0, .inr (3, [.int 0, .int 0, .int 0, .int 0, .int 0, .int 0, .ref z1, .ref z3, .ref z5, .ref z7, .ref z9, .ref z11, .ref z13, .ref z15, .ref z17, .ref z19, .null])), (z1, .inl (q 0, 6, .inl (fun _ => 0))), (z3, .inl (q 0, 6, .inl (fun _ => 0))), (z5, .inl (q 0, 24, .inl (fun _ => 0))), (z7, .inl (q 0, 5, .inl (fun _ => 0))), (z9, .inl (q 0, 5, .inl (fun _ => 0))), (z11, .inl (q 0, 5, .inl (fun _ => 0))), (z13, .inl (q 0, 5, .inl (fun _ => 0))), (z15, .inl (q 0, 5, .inl (fun _ => 0))), (z17, .inl (q 0, 5, .inl (fun _ => 0))), (z19, .inl (q 0, 5, .inl (fun _ => 0)))]) := hD
  clear hP hD hP19 hD19 hS19
  refine lv_aload_n hx hb dX3_init_77 rfl (lv_at hl0 0 rfl) ?_
  refine lv_iconst (v := (4 : Int32)) hx hb dX3_init_78 (by decide) ?_
  refine r_newa (atype := .int) (ty := .int) (t0 := 0) (N := 4) (nn := (4 : Int32)) X k_173 rfl rfl (fun _ h => by cases h) hP20 hD20 hS20 (fun _ h => Or.inr h) (fun _ => rfl) (by decide) (by decide) (by decide) (Nat.le_of_ble_eq_true rfl) (Nat.le_of_ble_eq_true rfl) dX3_init_79 (fun z21 H21 hP hD hS21 => ?_)
  have hP21 : va_P D cls ([(h0, .inr (3, [.int 0, .int 0, .int 0, .int 0, .int 0, .int 0, .ref z1, .ref z3, .ref z5, .ref z7, .ref z9, .ref z11, .ref z13, .ref z15, .ref z17, .ref z19, .null])), (z1, .inl (q 0, 6, .inl (fun _ => 0))), (z3, .inl (q 0, 6, .inl (fun _ => 0))), (z5, .inl (q 0, 24, .inl (fun _ => 0))), (z7, .inl (q 0, 5, .inl (fun _ => 0))), (z9, .inl (q 0, 5, .inl (fun _ => 0))), (z11, .inl (q 0, 5, .inl (fun _ => 0))), (z13, .inl (q 0, 5, .inl (fun _ => 0))), (z15, .inl (q 0, 5, .inl (fun _ => 0))), (z17, .inl (q 0, 5, .inl (fun _ => 0))), (z19, .inl (q 0, 5, .inl (fun _ => 0))), (z21, .inl (q 0, 4, .inl (fun _ => 0)))]) H21 := hP
  have hD21 : va_D (va_A ([(h0, .inr (3, [.int 0, .int 0, .int 0, .int 0, .int 0, .int 0, .null, .null, .null, .null, .null, .null, .null, .null, .null, .null, .null]))]) s.heap.size) ([(h0, .inr (3, [.int 0, .int 0, .int 0, .int 0, .int 0, .int 0, .ref z1, .ref z3, .ref z5, .ref z7, .ref z9, .ref z11, .ref z13, .ref z15, .ref z17, .ref z19, .null])), (z1, .inl (q 0, 6, .inl (fun _ => 0))), (z3, .inl (q 0, 6, .inl (fun _ => 0))), (z5, .inl (q 0, 24, .inl (fun _ => 0))), (z7, .inl (q 0, 5, .inl (fun _ => 0))), (z9, .inl (q 0, 5, .inl (fun _ => 0))), (z11, .inl (q 0, 5, .inl (fun _ => 0))), (z13, .inl (q 0, 5, .inl (fun _ => 0))), (z15, .inl (q 0, 5, .inl (fun _ => 0))), (z17, .inl (q 0, 5, .inl (fun _ => 0))), (z19, .inl (q 0, 5, .inl (fun _ => 0))), (z21, .inl (q 0, 4, .inl (fun _ => 0)))]) := hD
  clear hP hD hP20 hD20 hS20
  refine W.widen (k := 11) (n := 75) (Nat.le_of_ble_eq_true rfl) (Nat.le_of_ble_eq_true rfl) ?_
  refine va_putF (D := D) (ci := 3) (v := .ref z21) (ty := (.array .int)) (C := RX3) (T := TX3) (N := 17) hx hb hW iX3 tyX3 tyX3_ok nmX3 hown hK hP21 hD21 hS21 0 rfl rfl 16 (by decide) (hW _ k_134) (fun _ h => h) rfl hin rfl (by decide +kernel) rfl rfl (Nat.le_of_ble_eq_true rfl) dX3_init_81 (fun H22 locs22 hP hD hS22 => ?_)
  have hP22 : va_P D cls ([(h0, .inr (3, [.int 0, .int 0, .int 0, .int 0, .int 0, .int 0, .ref z1, .ref z3, .ref z5, .ref z7, .ref z9, .ref z11, .ref z13, .ref z15, .ref z17, .ref z19, .ref z21])), (z1, .inl (q 0, 6, .inl (fun _ => 0))), (z3, .inl (q 0, 6, .inl (fun _ => 0))), (z5, .inl (q 0, 24, .inl (fun _ => 0))), (z7, .inl (q 0, 5, .inl (fun _ => 0))), (z9, .inl (q 0, 5, .inl (fun _ => 0))), (z11, .inl (q 0, 5, .inl (fun _ => 0))), (z13, .inl (q 0, 5, .inl (fun _ => 0))), (z15, .inl (q 0, 5, .inl (fun _ => 0))), (z17, .inl (q 0, 5, .inl (fun _ => 0))), (z19, .inl (q 0, 5, .inl (fun _ => 0))), (z21, .inl (q 0, 4, .inl (fun _ => 0)))]) H22 := hP
  have hD22 : va_D (va_A ([(h0, .inr (3, [.int 0, .int 0, .int 0, .int 0, .int 0, .int 0, .null, .null, .null, .null, .null, .null, .null, .null, .null, .null, .null]))]) s.heap.size) ([(h0, .inr (3, [.int 0, .int 0, .int 0, .int 0, .int 0, .int 0, .ref z1, .ref z3, .ref z5, .ref z7, .ref z9, .ref z11, .ref z13, .ref z15, .ref z17, .ref z19, .ref z21])), (z1, .inl (q 0, 6, .inl (fun _ => 0))), (z3, .inl (q 0, 6, .inl (fun _ => 0))), (z5, .inl (q 0, 24, .inl (fun _ => 0))), (z7, .inl (q 0, 5, .inl (fun _ => 0))), (z9, .inl (q 0, 5, .inl (fun _ => 0))), (z11, .inl (q 0, 5, .inl (fun _ => 0))), (z13, .inl (q 0, 5, .inl (fun _ => 0))), (z15, .inl (q 0, 5, .inl (fun _ => 0))), (z17, .inl (q 0, 5, .inl (fun _ => 0))), (z19, .inl (q 0, 5, .inl (fun _ => 0))), (z21, .inl (q 0, 4, .inl (fun _ => 0)))]) := hD
  clear hP hD hP21 hD21 hS21
  refine lv_aload_n hx hb dX3_init_84 rfl (lv_at hl0 0 rfl) ?_
  have hP : va_P D cls (wX3 q (fun k => bif Nat.beq k 99 then h0 else bif Nat.beq k 6 then z1 else bif Nat.beq k 7 then z3 else bif Nat.beq k 8 then z5 else bif Nat.beq k 9 then z7 else bif Nat.beq k 10 then z9 else bif Nat.beq k 11 then z11 else bif Nat.beq k 12 then z13 else bif Nat.beq k 13 then z15 else bif Nat.beq k 14 then z17 else bif Nat.beq k 15 then z19 else bif Nat.beq k 16 then z21 else 0) z0) H22 := hP22
  have hD : va_D (va_A ([(h0, .inr (3, [.int 0, .int 0, .int 0, .int 0, .int 0, .int 0, .null, .null, .null, .null, .null, .null, .null, .null, .null, .null, .null]))]) s.heap.size) (wX3 q (fun k => bif Nat.beq k 99 then h0 else bif Nat.beq k 6 then z1 else bif Nat.beq k 7 then z3 else bif Nat.beq k 8 then z5 else bif Nat.beq k 9 then z7 else bif Nat.beq k 10 then z9 else bif Nat.beq k 11 then z11 else bif Nat.beq k 12 then z13 else bif Nat.beq k 13 then z15 else bif Nat.beq k 14 then z17 else bif Nat.beq k 15 then z19 else bif Nat.beq k 16 then z21 else 0) z0) := hD22
  refine cVWv (As := []) (rest := []) (Wn := fun (uu : SV) => wX3 q (fun k => bif Nat.beq k 99 then h0 else bif Nat.beq k 6 then z1 else bif Nat.beq k 7 then z3 else bif Nat.beq k 8 then z5 else bif Nat.beq k 9 then z7 else bif Nat.beq k 10 then z9 else bif Nat.beq k 11 then z11 else bif Nat.beq k 12 then z13 else bif Nat.beq k 13 then z15 else bif Nat.beq k 14 then z17 else bif Nat.beq k 15 then z19 else bif Nat.beq k 16 then z21 else 0) uu) X hP hD hS22 (fun _ h => Or.inr h) hl0.1 (c_X3_clear l D q H22.size (fun k => bif Nat.beq k 99 then h0 else bif Nat.beq k 6 then z1 else bif Nat.beq k 7 then z3 else bif Nat.beq k 8 then z5 else bif Nat.beq k 9 then z7 else bif Nat.beq k 10 then z9 else bif Nat.beq k 11 then z11 else bif Nat.beq k 12 then z13 else bif Nat.beq k 13 then z15 else bif Nat.beq k 14 then z17 else bif Nat.beq k 15 then z19 else bif Nat.beq k 16 then z21 else 0) z0 res hm) [0, 1, 2, 3, 4, 5, 6, 7, 8, 9, 10, 11] [] [0, 1, 2, 3, 4, 5, 6, 7, 8, 9, 10, 11] rfl (Wr := []) rfl (by decide) (by decide) (by decide) (by decide) (fun _ => rfl) 0 rfl rfl rfl k_75 mX3_clear ⟨rfl, rfl⟩ ⟨Nat.le_of_ble_eq_true rfl, Nat.le_of_ble_eq_true rfl⟩ rfl rfl (Nat.le_of_ble_eq_true rfl) dX3_init_85 ⟨Nat.le_of_ble_eq_true rfl, Nat.le_of_ble_eq_true rfl⟩ (fun H23 locs23 hP hD hS23 => ?_)
  have hP23 : va_P D cls (wX3 q (fun k => bif Nat.beq k 99 then h0 else bif Nat.beq k 6 then z1 else bif Nat.beq k 7 then z3 else bif Nat.beq k 8 then z5 else bif Nat.beq k 9 then z7 else bif Nat.beq k 10 then z9 else bif Nat.beq k 11 then z11 else bif Nat.beq k 12 then z13 else bif Nat.beq k 13 then z15 else bif Nat.beq k 14 then z17 else bif Nat.beq k 15 then z19 else bif Nat.beq k 16 then z21 else 0) res) H23 := hP
  have hD23 : va_D (va_A ([(h0, .inr (3, [.int 0, .int 0, .int 0, .int 0, .int 0, .int 0, .null, .null, .null, .null, .null, .null, .null, .null, .null, .null, .null]))]) s.heap.size) (wX3 q (fun k => bif Nat.beq k 99 then h0 else bif Nat.beq k 6 then z1 else bif Nat.beq k 7 then z3 else bif Nat.beq k 8 then z5 else bif Nat.beq k 9 then z7 else bif Nat.beq k 10 then z9 else bif Nat.beq k 11 then z11 else bif Nat.beq k 12 then z13 else bif Nat.beq k 13 then z15 else bif Nat.beq k 14 then z17 else bif Nat.beq k 15 then z19 else bif Nat.beq k 16 then z21 else 0) res) := hD
  clear hP hD hP22 hD22 hS22
  exact eIv (Wf := fun (u : Nat → Nat) => wX3 q u res) (u := (fun k => bif Nat.beq k 99 then h0 else bif Nat.beq k 6 then z1 else bif Nat.beq k 7 then z3 else bif Nat.beq k 8 then z5 else bif Nat.beq k 9 then z7 else bif Nat.beq k 10 then z9 else bif Nat.beq k 11 then z11 else bif Nat.beq k 12 then z13 else bif Nat.beq k 13 then z15 else bif Nat.beq k 14 then z17 else bif Nat.beq k 15 then z19 else bif Nat.beq k 16 then z21 else 0)) X hr hlocks hP23 hD23 hS23 rfl dX3_init_88

theorem mX0_init : MI yX0_init cX0_init 1 0 := ⟨k_66, k_41, k_67, rfl, by decide +kernel⟩
set_option maxHeartbeats 4000000 in
set_option maxRecDepth 100000 in
theorem c_X0_init (l : Launch) (D : va_G) (q : Nat → ClassId) (sz h0 : Nat) (res : SV) (hm : m_X3_clear z0 = some res) : Met l yX0_init (mw yX0_init cX0_init 1 none) ({ frames := 3, cells := 13, slots := 252, locals := 63 } : Room) (pcW D q ([(h0, .inr (0, [.null, .int 0, .null, .int 0, .int 0, .int 0, .int 0, .int 0, .int 0, .int 0, .int 0, .int 0, .int 0]))]) sz [.ref h0]) (va_Qv (fun (u : (Nat → Nat) × (Nat → Nat)) => u.1 99 = h0) (bW D q ([(h0, .inr (0, [.null, .int 0, .null, .int 0, .int 0, .int 0, .int 0, .int 0, .int 0, .int 0, .int 0, .int 0, .int 0]))]) sz (fun (u : (Nat → Nat) × (Nat → Nat)) => wX0 q u.1 z0 (u.2 99) ++ wX3 q u.2 res)) (va_A ([(h0, .inr (0, [.null, .int 0, .null, .int 0, .int 0, .int 0, .int 0, .int 0, .int 0, .int 0, .int 0, .int 0, .int 0]))]) sz)) 13 252 (va_A ([(h0, .inr (0, [.null, .int 0, .null, .int 0, .int 0, .int 0, .int 0, .int 0, .int 0, .int 0, .int 0, .int 0, .int 0]))]) sz) := by
  refine Met.ofW (cc := cX0_init) (maxL := 1) (ret := none) (by decide) rfl ?_
  intro p e s m args below meth c s₁ B hml hv
  obtain ⟨rfl, hsz, hP0, hK, hD0⟩ := hv
  have hx := B.exec
  have hb := B.bytes
  have hr := B.returns
  have hW := mw_ws (atoms_spec (ws := mw yX0_init cX0_init 1 none) B.pre)
  have hown : s.vm.findClass RX0 = some m.cls := findClass_of_methodNamed B.named
  have hlocks := B.notSynchronized
  have hin : meth.name = "<init>" := (name_of_methodNamed B.named B.method).1
  have X : Cx p s m [.ref h0].toArray c cX0_init 1 RX0 D q := ⟨hx, hb, hml, hown, hW, hK⟩
  subst hsz
  replace hD0 := hD0.self (sz := s.heap.size)
  have hS0 : va_S (va_A ([(h0, .inr (0, [.null, .int 0, .null, .int 0, .int 0, .int 0, .int 0, .int 0, .int 0, .int 0, .int 0, .int 0, .int 0]))]) s.heap.size) s.heap s.heap [] := va_S.rf
  have hl0 := lv_entry ([.ref h0]) (n := 1) (Nat.le_of_ble_eq_true rfl)
  rw [lg_entry_eq]
  generalize (lg_sl ([.ref h0]) ++ List.replicate (1 - (lg_sl ([.ref h0])).length) Slot.unset).toArray = ls0 at hl0 ⊢
  have hl0 : lv_has ls0 1 [(0, .ref h0)] := hl0
  refine lv_aload_n hx hb dX0_init_0 rfl (lv_at hl0 0 rfl) ?_
  refine W.objInit hx hb hown (hW _ k_68) (hW _ k_61) (hW _ k_62) rfl (by rw [hml]; exact hl0.1) rfl dX0_init_1 (Nat.le_of_ble_eq_true rfl) (Nat.le_of_ble_eq_true rfl) ?_
  refine W.eq (g2 := F0 m 4 _ []) rfl ?_
  refine lv_aload_n hx hb dX0_init_4 rfl (lv_at hl0 0 rfl) ?_
  refine lv_sipush (v := (160 : Int32)) hx hb dX0_init_5 (by decide) ?_
  refine r_newa (atype := .byte) (ty := .byte) (t0 := 1) (N := 160) (nn := (160 : Int32)) X k_172 rfl rfl (fun _ h => by cases h) hP0 hD0 hS0 (fun _ h => Or.inr h) (fun _ => rfl) (by decide) (by decide) (by decide) (Nat.le_of_ble_eq_true rfl) (Nat.le_of_ble_eq_true rfl) dX0_init_8 (fun z1 H1 hP hD hS1 => ?_)
  have hP1 : va_P D cls ([(h0, .inr (0, [.null, .int 0, .null, .int 0, .int 0, .int 0, .int 0, .int 0, .int 0, .int 0, .int 0, .int 0, .int 0])), (z1, .inl (q 1, 160, .inl (fun _ => 0)))]) H1 := hP
  have hD1 : va_D (va_A ([(h0, .inr (0, [.null, .int 0, .null, .int 0, .int 0, .int 0, .int 0, .int 0, .int 0, .int 0, .int 0, .int 0, .int 0]))]) s.heap.size) ([(h0, .inr (0, [.null, .int 0, .null, .int 0, .int 0, .int 0, .int 0, .int 0, .int 0, .int 0, .int 0, .int 0, .int 0])), (z1, .inl (q 1, 160, .inl (fun _ => 0)))]) := hD
  clear hP hD hP0 hD0 hS0
  refine W.widen (k := 1) (n := 160) (Nat.le_of_ble_eq_true rfl) (Nat.le_of_ble_eq_true rfl) ?_
  refine va_putF (D := D) (ci := 0) (v := .ref z1) (ty := (.array .byte)) (C := RX0) (T := TX0) (N := 13) hx hb hW iX0 tyX0 tyX0_ok nmX0 hown hK hP1 hD1 hS1 0 rfl rfl 0 (by decide) (hW _ k_174) (fun _ h => h) rfl hin rfl (by decide +kernel) rfl rfl (Nat.le_of_ble_eq_true rfl) dX0_init_10 (fun H2 locs2 hP hD hS2 => ?_)
  have hP2 : va_P D cls ([(h0, .inr (0, [.ref z1, .int 0, .null, .int 0, .int 0, .int 0, .int 0, .int 0, .int 0, .int 0, .int 0, .int 0, .int 0])), (z1, .inl (q 1, 160, .inl (fun _ => 0)))]) H2 := hP
  have hD2 : va_D (va_A ([(h0, .inr (0, [.null, .int 0, .null, .int 0, .int 0, .int 0, .int 0, .int 0, .int 0, .int 0, .int 0, .int 0, .int 0]))]) s.heap.size) ([(h0, .inr (0, [.ref z1, .int 0, .null, .int 0, .int 0, .int 0, .int 0, .int 0, .int 0, .int 0, .int 0, .int 0, .int 0])), (z1, .inl (q 1, 160, .inl (fun _ => 0)))]) := hD
  clear hP hD hP1 hD1 hS1
  refine lv_aload_n hx hb dX0_init_13 rfl (lv_at hl0 0 rfl) ?_
  refine lv_iconst (v := (0 : Int32)) hx hb dX0_init_14 (by decide) ?_
  refine va_put (D := D) (ci := 0) (v := .int (0 : Int32)) (ty := .int) (C := RX0) (T := TX0) (N := 13) hx hb hW iX0 tyX0 tyX0_ok nmX0 hown hK hP2 hD2 hS2 0 rfl rfl 1 (by decide) (hW _ k_175) (fun _ h => h) rfl (by decide +kernel) rfl rfl (Nat.le_of_ble_eq_true rfl) dX0_init_15 (fun H3 locs3 hP hD hS3 => ?_)
  have hP3 : va_P D cls ([(h0, .inr (0, [.ref z1, .int (0 : Int32), .null, .int 0, .int 0, .int 0, .int 0, .int 0, .int 0, .int 0, .int 0, .int 0, .int 0])), (z1, .inl (q 1, 160, .inl (fun _ => 0)))]) H3 := hP
  have hD3 : va_D (va_A ([(h0, .inr (0, [.null, .int 0, .null, .int 0, .int 0, .int 0, .int 0, .int 0, .int 0, .int 0, .int 0, .int 0, .int 0]))]) s.heap.size) ([(h0, .inr (0, [.ref z1, .int (0 : Int32), .null, .int 0, .int 0, .int 0, .int 0, .int 0, .int 0, .int 0, .int 0, .int 0, .int 0])), (z1, .inl (q 1, 160, .inl (fun _ => 0)))]) := hD
  clear hP hD hP2 hD2 hS2
  refine lv_aload_n hx hb dX0_init_18 rfl (lv_at hl0 0 rfl) ?_
  refine va_new (ci := 3) (fs := [.int 0, .int 0, .int 0, .int 0, .int 0, .int 0, .null, .null, .null, .null, .null, .null, .null, .null, .null, .null, .null]) (C := RX3) (T := TX3) (N := 17) hx hb hW iX3 tyX3 tyX3_ok hown (hW _ k_69) (hW _ k_70) (hW _ k_42) hK hP3 hD3 hS3 (fun _ h => Or.inr h) rfl (by decide +kernel) (Nat.le_of_ble_eq_true rfl) (Nat.le_of_ble_eq_true rfl) dX0_init_19 (fun z4 H4 hP hD hS4 => ?_)
  have hP4 : va_P D cls ([(h0, .inr (0, [.ref z1, .int (0 : Int32), .null, .int 0, .int 0, .int 0, .int 0, .int 0, .int 0, .int 0, .int 0, .int 0, .int 0])), (z1, .inl (q 1, 160, .inl (fun _ => 0))), (z4, .inr (3, [.int 0, .int 0, .int 0, .int 0, .int 0, .int 0, .null, .null, .null, .null, .null, .null, .null, .null, .null, .null, .null]))]) H4 := hP
  have hD4 : va_D (va_A ([(h0, .inr (0, [.null, .int 0, .null, .int 0, .int 0, .int 0, .int 0, .int 0, .int 0, .int 0, .int 0, .int 0, .int 0]))]) s.heap.size) ([(h0, .inr (0, [.ref z1, .int (0 : Int32), .null, .int 0, .int 0, .int 0, .int 0, .int 0, .int 0, .int 0, .int 0, .int 0, .int 0])), (z1, .inl (q 1, 160, .inl (fun _ => 0))), (z4, .inr (3, [.int 0, .int 0, .int 0, .int 0, .int 0, .int 0, .null, .null, .null, .null, .null, .null, .null, .null, .null, .null, .null]))]) := hD
  clear hP hD hP3 hD3 hS3
  refine W.widen (k := 2) (n := 177) (Nat.le_of_ble_eq_true rfl) (Nat.le_of_ble_eq_true rfl) ?_
  refine lv_dup hx hb dX0_init_22 rfl ?_
  refine cIW (As := []) (rest := [.ref z4, .ref h0]) (Wn := fun (u : Nat → Nat) => [(h0, .inr (0, [.ref z1, .int (0 : Int32), .null, .int 0, .int 0, .int 0, .int 0, .int 0, .int 0, .int 0, .int 0, .int 0, .int 0])), (z1, .inl (q 1, 160, .inl (fun _ => 0)))] ++ wX3 q u res) X hP4 hD4 hS4 (fun _ h => Or.inr h) hl0.1 (c_X3_init l D q H4.size z4 res hm) pcW_blind (fun U hU hWm hz hp hk hd => ⟨rfl, hz, hp, hk, hd⟩) [2] [0, 1] [0, 1, 2, 3, 4, 5, 6, 7, 8, 9, 10, 11, 12, 13] rfl (Wr := [(h0, .inr (0, [.ref z1, .int (0 : Int32), .null, .int 0, .int 0, .int 0, .int 0, .int 0, .int 0, .int 0, .int 0, .int 0, .int 0])), (z1, .inl (q 1, 160, .inl (fun _ => 0)))]) rfl (by decide) (by decide) (by decide) (by decide) (fun _ => rfl) k_71 mX3_init ⟨rfl, rfl⟩ ⟨Nat.le_of_ble_eq_true rfl, Nat.le_of_ble_eq_true rfl⟩ rfl rfl (Nat.le_of_ble_eq_true rfl) dX0_init_23 ⟨Nat.le_of_ble_eq_true rfl, Nat.le_of_ble_eq_true rfl⟩ (fun u5 H5 locs5 hu hP hD hS5 => ?_)
  obtain rfl := hu
  have hP5 : va_P D cls ([(h0, .inr (0, [.ref z1, .int (0 : Int32), .null, .int 0, .int 0, .int 0, .int 0, .int 0, .int 0, .int 0, .int 0, .int 0, .int 0])), (z1, .inl (q 1, 160, .inl (fun _ => 0)))] ++ wX3 q u5 res) H5 := hP
  have hD5 : va_D (va_A ([(h0, .inr (0, [.null, .int 0, .null, .int 0, .int 0, .int 0, .int 0, .int 0, .int 0, .int 0, .int 0, .int 0, .int 0]))]) s.heap.size) ([(h0, .inr (0, [.ref z1, .int (0 : Int32), .null, .int 0, .int 0, .int 0, .int 0, .int 0, .int 0, .int 0, .int 0, .int 0, .int 0])), (z1, .inl (q 1, 160, .inl (fun _ => 0)))] ++ wX3 q u5 res) := hD
  clear hP hD hP4 hD4 hS4
  refine W.widen (k := 13) (n := 252) (Nat.le_of_ble_eq_true rfl) (Nat.le_of_ble_eq_true rfl) ?_
  refine va_putF (D := D) (ci := 0) (v := .ref (u5 99)) (ty := (.object "PartSitters$Street")) (C := RX0) (T := TX0) (N := 13) hx hb hW iX0 tyX0 tyX0_ok nmX0 hown hK hP5 hD5 hS5 0 rfl rfl 2 (by decide) (hW _ k_177) (fun _ h => h) rfl hin rfl (by decide +kernel) rfl rfl (Nat.le_of_ble_eq_true rfl) dX0_init_26 (fun H6 locs6 hP hD hS6 => ?_)
  have hP6 : va_P D cls ([(h0, .inr (0, [.ref z1, .int (0 : Int32), .ref (u5 99), .int 0, .int 0, .int 0, .int 0, .int 0, .int 0, .int 0, .int 0, .int 0, .int 0])), (z1, .inl (q 1, 160, .inl (fun _ => 0)))] ++ wX3 q u5 res) H6 := hP
  have hD6 : va_D (va_A ([(h0, .inr (0, [.null, .int 0, .null, .int 0, .int 0, .int 0, .int 0, .int 0, .int 0, .int 0, .int 0, .int 0, .int 0]))]) s.heap.size) ([(h0, .inr (0, [.ref z1, .int (0 : Int32), .ref (u5 99), .int 0, .int 0, .int 0, .int 0, .int 0, .int 0, .int 0, .int 0, .int 0, .int 0])), (z1, .inl (q 1, 160, .inl (fun _ => 0)))] ++ wX3 q u5 res) := hD
  clear hP hD hP5 hD5 hS5
  refine lv_aload_n hx hb dX0_init_29 rfl (lv_at hl0 0 rfl) ?_
  refine lv_iconst (v := (0 : Int32)) hx hb dX0_init_30 (by decide) ?_
  refine va_put (D := D) (ci := 0) (v := .int (0 : Int32)) (ty := .int) (C := RX0) (T := TX0) (N := 13) hx hb hW iX0 tyX0 tyX0_ok nmX0 hown hK hP6 hD6 hS6 0 rfl rfl 3 (by decide) (hW _ k_179) (fun _ h => h) rfl (by decide +kernel) rfl rfl (Nat.le_of_ble_eq_true rfl) dX0_init_31 (fun H7 locs7 hP hD hS7 => ?_)
  have hP7 : va_P D cls ([(h0, .inr (0, [.ref z1, .int (0 : Int32), .ref (u5 99), .int (0 : Int32), .int 0, .int 0, .int 0, .int 0, .int 0, .int 0, .int 0, .int 0, .int 0])), (z1, .inl (q 1, 160, .inl (fun _ => 0)))] ++ wX3 q u5 res) H7 := hP
  have hD7 : va_D (va_A ([(h0, .inr (0, [.null, .int 0, .null, .int 0, .int 0, .int 0, .int 0, .int 0, .int 0, .int 0, .int 0, .int 0, .int 0]))]) s.heap.size) ([(h0, .inr (0, [.ref z1, .int (0 : Int32), .ref (u5 99), .int (0 : Int32), .int 0, .int 0, .int 0, .int 0, .int 0, .int 0, .int 0, .int 0, .int 0])), (z1, .inl (q 1, 160, .inl (fun _ => 0)))] ++ wX3 q u5 res) := hD
  clear hP hD hP6 hD6 hS6
  refine lv_aload_n hx hb dX0_init_34 rfl (lv_at hl0 0 rfl) ?_
  refine lv_iconst (v := (0 : Int32)) hx hb dX0_init_35 (by decide) ?_
  refine va_put (D := D) (ci := 0) (v := .int (0 : Int32)) (ty := .int) (C := RX0) (T := TX0) (N := 13) hx hb hW iX0 tyX0 tyX0_ok nmX0 hown hK hP7 hD7 hS7 0 rfl rfl 4 (by decide) (hW _ k_181) (fun _ h => h) rfl (by decide +kernel) rfl rfl (Nat.le_of_ble_eq_true rfl) dX0_init_36 (fun H8 locs8 hP hD hS8 => ?_)
  have hP8 : va_P D cls ([(h0, .inr (0, [.ref z1, .int (0 : Int32), .ref (u5 99), .int (0 : Int32), .int (0 : Int32), .int 0, .int 0, .int 0, .int 0, .int 0, .int 0, .int 0, .int 0])), (z1, .inl (q 1, 160, .inl (fun _ => 0)))] ++ wX3 q u5 res) H8 := hP
  have hD8 : va_D (va_A ([(h0, .inr (0, [.null, .int 0, .null, .int 0, .int 0, .int 0, .int 0, .int 0, .int 0, .int 0, .int 0, .int 0, .int 0]))]) s.heap.size) ([(h0, .inr (0, [.ref z1, .int (0 : Int32), .ref (u5 99), .int (0 : Int32), .int (0 : Int32), .int 0, .int 0, .int 0, .int 0, .int 0, .int 0, .int 0, .int 0])), (z1, .inl (q 1, 160, .inl (fun _ => 0)))] ++ wX3 q u5 res) := hD
  clear hP hD hP7 hD7 hS7
  exact eIv (Wf := fun (u : (Nat → Nat) × (Nat → Nat)) => wX0 q u.1 z0 (u.2 99) ++ wX3 q u.2 res) (u := ((fun k => bif Nat.beq k 99 then h0 else bif Nat.beq k 0 then z1 else 0), u5)) X hr hlocks hP8 hD8 hS8 rfl dX0_init_39

theorem mX4_init : MI yX4_init cX4_init 3 2 := ⟨k_248, k_45, k_249, rfl, by decide +kernel⟩
set_option maxHeartbeats 4000000 in
set_option maxRecDepth 100000 in
theorem c_X4_init (l : Launch) (D : va_G) (q : Nat → ClassId) (sz h0 : Nat) (sA eA : Nat) : Met l yX4_init (mw yX4_init cX4_init 3 none) ({ frames := 1, cells := 5, slots := 54, locals := 12 } : Room) (pcW D q ([(h0, .inr (4, [.null, .null, .int 0, .int 0, .int 0, .int 0, .int 0, .null, .null, .null, .null, .null]))]) sz [.ref h0, .ref sA, .ref eA]) (va_Qv (fun (u : Nat → Nat) => u 99 = h0) (bW D q ([(h0, .inr (4, [.null, .null, .int 0, .int 0, .int 0, .int 0, .int 0, .null, .null, .null, .null, .null]))]) sz (fun (u : Nat → Nat) => wX4 q u z0 sA eA)) (va_A ([(h0, .inr (4, [.null, .null, .int 0, .int 0, .int 0, .int 0, .int 0, .null, .null, .null, .null, .null]))]) sz)) 5 54 (va_A ([(h0, .inr (4, [.null, .null, .int 0, .int 0, .int 0, .int 0, .int 0, .null, .null, .null, .null, .null]))]) sz) := by
  refine Met.ofW (cc := cX4_init) (maxL := 3) (ret := none) (by decide) rfl ?_
  intro p e s m args below meth c s₁ B hml hv
  obtain ⟨rfl, hsz, hP0, hK, hD0⟩ := hv
  have hx := B.exec
  have hb := B.bytes
  have hr := B.returns
  have hW := mw_ws (atoms_spec (ws := mw yX4_init cX4_init 3 none) B.pre)
  have hown : s.vm.findClass RX4 = some m.cls := findClass_of_methodNamed B.named
  have hlocks := B.notSynchronized
  have hin : meth.name = "<init>" := (name_of_methodNamed B.named B.method).1
  have X : Cx p s m [.ref h0, .ref sA, .ref eA].toArray c cX4_init 3 RX4 D q := ⟨hx, hb, hml, hown, hW, hK⟩
  subst hsz
  replace hD0 := hD0.self (sz := s.heap.size)
  have hS0 : va_S (va_A ([(h0, .inr (4, [.null, .null, .int 0, .int 0, .int 0, .int 0, .int 0, .null, .null, .null, .null, .null]))]) s.heap.size) s.heap s.heap [] := va_S.rf
  have hl0 := lv_entry ([.ref h0, .ref sA, .ref eA]) (n := 3) (Nat.le_of_ble_eq_true rfl)
  rw [lg_entry_eq]
  generalize (lg_sl ([.ref h0, .ref sA, .ref eA]) ++ List.replicate (3 - (lg_sl ([.ref h0, .ref sA, .ref eA])).length) Slot.unset).toArray = ls0 at hl0 ⊢
  have hl0 : lv_has ls0 3 [(0, .ref h0), (1, .ref sA), (2, .ref eA)] := hl0
  refine lv_aload_n hx hb dX4_init_0 rfl (lv_at hl0 0 rfl) ?_
  refine W.objInit hx hb hown (hW _ k_250) (hW _ k_61) (hW _ k_62) rfl (by rw [hml]; exact hl0.1) rfl dX4_init_1 (Nat.le_of_ble_eq_true rfl) (Nat.le_of_ble_eq_true rfl) ?_
  refine W.eq (g2 := F0 m 4 _ []) rfl ?_
  refine lv_aload_n hx hb dX4_init_4 rfl (lv_at hl0 0 rfl) ?_
  refine lv_iconst (v := (5 : Int32)) hx hb dX4_init_5 (by decide) ?_
  refine r_newa (atype := .int) (ty := .int) (t0 := 0) (N := 5) (nn := (5 : Int32)) X k_173 rfl rfl (fun _ h => by cases h) hP0 hD0 hS0 (fun _ h => Or.inr h) (fun _ => rfl) (by decide) (by decide) (by decide) (Nat.le_of_ble_eq_true rfl) (Nat.le_of_ble_eq_true rfl) dX4_init_6 (fun z1 H1 hP hD hS1 => ?_)
  have hP1 : va_P D cls ([(h0, .inr (4, [.null, .null, .int 0, .int 0, .int 0, .int 0, .int 0, .null, .null, .null, .null, .null])), (z1, .inl (q 0, 5, .inl (fun _ => 0)))]) H1 := hP
  have hD1 : va_D (va_A ([(h0, .inr (4, [.null, .null, .int 0, .int 0, .int 0, .int 0, .int 0, .null, .null, .null, .null, .null]))]) s.heap.size) ([(h0, .inr (4, [.null, .null, .int 0, .int 0, .int 0, .int 0, .int 0, .null, .null, .null, .null, .null])), (z1, .inl (q 0, 5, .inl (fun _ => 0)))]) := hD
  clear hP hD hP0 hD0 hS0
  refine W.widen (k := 1) (n := 5) (Nat.le_of_ble_eq_true rfl) (Nat.le_of_ble_eq_true rfl) ?_
  refine va_putF (D := D) (ci := 4) (v := .ref z1) (ty := (.array .int)) (C := RX4) (T := TX4) (N := 12) hx hb hW iX4 tyX4 tyX4_ok nmX4 hown hK hP1 hD1 hS1 0 rfl rfl 7 (by decide) (hW _ k_259) (fun _ h => h) rfl hin rfl (by decide +kernel) rfl rfl (Nat.le_of_ble_eq_true rfl) dX4_init_8 (fun H2 locs2 hP hD hS2 => ?_)
  have hP2 : va_P D cls ([(h0, .inr (4, [.null, .null, .int 0, .int 0, .int 0, .int 0, .int 0, .ref z1, .null, .null, .null, .null])), (z1, .inl (q 0, 5, .inl (fun _ => 0)))]) H2 := hP
  have hD2 : va_D (va_A ([(h0, .inr (4, [.null, .null, .int 0, .int 0, .int 0, .int 0, .int 0, .null, .null, .null, .null, .null]))]) s.heap.size) ([(h0, .inr (4, [.null, .null, .int 0, .int 0, .int 0, .int 0, .int 0, .ref z1, .null, .null, .null, .null])), (z1, .inl (q 0, 5, .inl (fun _ => 0)))]) := hD
  clear hP hD hP1 hD1 hS1
  refine lv_aload_n hx hb dX4_init_11 rfl (lv_at hl0 0 rfl) ?_
  refine lv_bipush (v := (6 : Int32)) hx hb dX4_init_12 (by decide) ?_
  refine r_newa (atype := .int) (ty := .int) (t0 := 0) (N := 6) (nn := (6 : Int32)) X k_173 rfl rfl (fun _ h => by cases h) hP2 hD2 hS2 (fun _ h => Or.inr h) (fun _ => rfl) (by decide) (by decide) (by decide) (Nat.le_of_ble_eq_true rfl) (Nat.le_of_ble_eq_true rfl) dX4_init_14 (fun z3 H3 hP hD hS3 => ?_)
  have hP3 : va_P D cls ([(h0, .inr (4, [.null, .null, .int 0, .int 0, .int 0, .int 0, .int 0, .ref z1, .null, .null, .null, .null])), (z1, .inl (q 0, 5, .inl (fun _ => 0))), (z3, .inl (q 0, 6, .inl (fun _ => 0)))]) H3 := hP
  have hD3 : va_D (va_A ([(h0, .inr (4, [.null, .null, .int 0, .int 0, .int 0, .int 0, .int 0, .null, .null, .null, .null, .null]))]) s.heap.size) ([(h0, .inr (4, [.null, .null, .int 0, .int 0, .int 0, .int 0, .int 0, .ref z1, .null, .null, .null, .null])), (z1, .inl (q 0, 5, .inl (fun _ => 0))), (z3, .inl (q 0, 6, .inl (fun _ => 0)))]) := hD
  clear hP hD hP2 hD2 hS2
  refine W.widen (k := 2) (n := 11) (Nat.le_of_ble_eq_true rfl) (Nat.le_of_ble_eq_true rfl) ?_
  refine va_putF (D := D) (ci := 4) (v := .ref z3) (ty := (.array .int)) (C := RX4) (T := TX4) (N := 12) hx hb hW iX4 tyX4 tyX4_ok nmX4 hown hK hP3 hD3 hS3 0 rfl rfl 8 (by decide) (hW _ k_260) (fun _ h => h) rfl hin rfl (by decide +kernel) rfl rfl (Nat.le_of_ble_eq_true rfl) dX4_init_16 (fun H4 locs4 hP hD hS4 => ?_)
  have hP4 : va_P D cls ([(h0, .inr (4, [.null, .null, .int 0, .int 0, .int 0, .int 0, .int 0, .ref z1, .ref z3, .null, .null, .null])), (z1, .inl (q 0, 5, .inl (fun _ => 0))), (z3, .inl (q 0, 6, .inl (fun _ => 0)))]) H4 := hP
  have hD4 : va_D (va_A ([(h0, .inr (4, [.null, .null, .int 0, .int 0, .int 0, .int 0, .int 0, .null, .null, .null, .null, .null]))]) s.heap.size) ([(h0, .inr (4, [.null, .null, .int 0, .int 0, .int 0, .int 0, .int 0, .ref z1, .ref z3, .null, .null, .null])), (z1, .inl (q 0, 5, .inl (fun _ => 0))), (z3, .inl (q 0, 6, .inl (fun _ => 0)))]) := hD
  clear hP hD hP3 hD3 hS3
  refine lv_aload_n hx hb dX4_init_19 rfl (lv_at hl0 0 rfl) ?_
  refine lv_bipush (v := (6 : Int32)) hx hb dX4_init_20 (by decide) ?_
  refine r_newa (atype := .int) (ty := .int) (t0 := 0) (N := 6) (nn := (6 : Int32)) X k_173 rfl rfl (fun _ h => by cases h) hP4 hD4 hS4 (fun _ h => Or.inr h) (fun _ => rfl) (by decide) (by decide) (by decide) (Nat.le_of_ble_eq_true rfl) (Nat.le_of_ble_eq_true rfl) dX4_init_22 (fun z5 H5 hP hD hS5 => ?_)
  have hP5 : va_P D cls ([(h0, .inr (4, [.null, .null, .int 0, .int 0, .int 0, .int 0, .int 0, .ref z1, .ref z3, .null, .null, .null])), (z1, .inl (q 0, 5, .inl (fun _ => 0))), (z3, .inl (q 0, 6, .inl (fun _ => 0))), (z5, .inl (q 0, 6, .inl (fun _ => 0)))]) H5 := hP
  have hD5 : va_D (va_A ([(h0, .inr (4, [.null, .null, .int 0, .int 0, .int 0, .int 0, .int 0, .null, .null, .null, .null, .null]))]) s.heap.size) ([(h0, .inr (4, [.null, .null, .int 0, .int 0, .int 0, .int 0, .int 0, .ref z1, .ref z3, .null, .null, .null])), (z1, .inl (q 0, 5, .inl (fun _ => 0))), (z3, .inl (q 0, 6, .inl (fun _ => 0))), (z5, .inl (q 0, 6, .inl (fun _ => 0)))]) := hD
  clear hP hD hP4 hD4 hS4
  refine W.widen (k := 3) (n := 17) (Nat.le_of_ble_eq_true rfl) (Nat.le_of_ble_eq_true rfl) ?_
  refine va_putF (D := D) (ci := 4) (v := .ref z5) (ty := (.array .int)) (C := RX4) (T := TX4) (N := 12) hx hb hW iX4 tyX4 tyX4_ok nmX4 hown hK hP5 hD5 hS5 0 rfl rfl 9 (by decide) (hW _ k_261) (fun _ h => h) rfl hin rfl (by decide +kernel) rfl rfl (Nat.le_of_ble_eq_true rfl) dX4_init_24 (fun H6 locs6 hP hD hS6 => ?_)
  have hP6 : va_P D cls ([(h0, .inr (4, [.null, .null, .int 0, .int 0, .int 0, .int 0, .int 0, .ref z1, .ref z3, .ref z5, .null, .null])), (z1, .inl (q 0, 5, .inl (fun _ => 0))), (z3, .inl (q 0, 6, .inl (fun _ => 0))), (z5, .inl (q 0, 6, .inl (fun _ => 0)))]) H6 := hP
  have hD6 : va_D (va_A ([(h0, .inr (4, [.null, .null, .int 0, .int 0, .int 0, .int 0, .int 0, .null, .null, .null, .null, .null]))]) s.heap.size) ([(h0, .inr (4, [.null, .null, .int 0, .int 0, .int 0, .int 0, .int 0, .ref z1, .ref z3, .ref z5, .null, .null])), (z1, .inl (q 0, 5, .inl (fun _ => 0))), (z3, .inl (q 0, 6, .inl (fun _ => 0))), (z5, .inl (q 0, 6, .inl (fun _ => 0)))]) := hD
  clear hP hD hP5 hD5 hS5
  refine lv_aload_n hx hb dX4_init_27 rfl (lv_at hl0 0 rfl) ?_
  refine lv_bipush (v := (7 : Int32)) hx hb dX4_init_28 (by decide) ?_
  refine r_newa (atype := .int) (ty := .int) (t0 := 0) (N := 7) (nn := (7 : Int32)) X k_173 rfl rfl (fun _ h => by cases h) hP6 hD6 hS6 (fun _ h => Or.inr h) (fun _ => rfl) (by decide) (by decide) (by decide) (Nat.le_of_ble_eq_true rfl) (Nat.le_of_ble_eq_true rfl) dX4_init_30 (fun z7 H7 hP hD hS7 => ?_)
  have hP7 : va_P D cls ([(h0, .inr (4, [.null, .null, .int 0, .int 0, .int 0, .int 0, .int 0, .ref z1, .ref z3, .ref z5, .null, .null])), (z1, .inl (q 0, 5, .inl (fun _ => 0))), (z3, .inl (q 0, 6, .inl (fun _ => 0))), (z5, .inl (q 0, 6, .inl (fun _ => 0))), (z7, .inl (q 0, 7, .inl (fun _ => 0)))]) H7 := hP
  have hD7 : va_D (va_A ([(h0, .inr (4, [.null, .null, .int 0, .int 0, .int 0, .int 0, .int 0, .null, .null, .null, .null, .null]))]) s.heap.size) ([(h0, .inr (4, [.null, .null, .int 0, .int 0, .int 0, .int 0, .int 0, .ref z1, .ref z3, .ref z5, .null, .null])), (z1, .inl (q 0, 5, .inl (fun _ => 0))), (z3, .inl (q 0, 6, .inl (fun _ => 0))), (z5, .inl (q 0, 6, .inl (fun _ => 0))), (z7, .inl (q 0, 7, .inl (fun _ => 0)))]) := hD
  clear hP hD hP6 hD6 hS6
  refine W.widen (k := 4) (n := 24) (Nat.le_of_ble_eq_true rfl) (Nat.le_of_ble_eq_true rfl) ?_
  refine va_putF (D := D) (ci := 4) (v := .ref z7) (ty := (.array .int)) (C := RX4) (T := TX4) (N := 12) hx hb hW iX4 tyX4 tyX4_ok nmX4 hown hK hP7 hD7 hS7 0 rfl rfl 10 (by decide) (hW _ k_262) (fun _ h => h) rfl hin rfl (by decide +kernel) rfl rfl (Nat.le_of_ble_eq_true rfl) dX4_init_32 (fun H8 locs8 hP hD hS8 => ?_)
  have hP8 : va_P D cls ([(h0, .inr (4, [.null, .null, .int 0, .int 0, .int 0, .int 0, .int 0, .ref z1, .ref z3, .ref z5, .ref z7, .null])), (z1, .inl (q 0, 5, .inl (fun _ => 0))), (z3, .inl (q 0, 6, .inl (fun _ => 0))), (z5, .inl (q 0, 6, .inl (fun _ => 0))), (z7, .inl (q 0, 7, .inl (fun _ => 0)))]) H8 := hP
  have hD8 : va_D (va_A ([(h0, .inr (4, [.null, .null, .int 0, .int 0, .int 0, .int 0, .int 0, .null, .null, .null, .null, .null]))]) s.heap.size) ([(h0, .inr (4, [.null, .null, .int 0, .int 0, .int 0, .int 0, .int 0, .ref z1, .ref z3, .ref z5, .ref z7, .null])), (z1, .inl (q 0, 5, .inl (fun _ => 0))), (z3, .inl (q 0, 6, .inl (fun _ => 0))), (z5, .inl (q 0, 6, .inl (fun _ => 0))), (z7, .inl (q 0, 7, .inl (fun _ => 0)))]) := hD
  clear hP hD hP7 hD7 hS7
  refine lv_aload_n hx hb dX4_init_35 rfl (lv_at hl0 0 rfl) ?_
  refine lv_bipush (v := (30 : Int32)) hx hb dX4_init_36 (by decide) ?_
  refine r_newa (atype := .int) (ty := .int) (t0 := 0) (N := 30) (nn := (30 : Int32)) X k_173 rfl rfl (fun _ h => by cases h) hP8 hD8 hS8 (fun _ h => Or.inr h) (fun _ => rfl) (by decide) (by decide) (by decide) (Nat.le_of_ble_eq_true rfl) (Nat.le_of_ble_eq_true rfl) dX4_init_38 (fun z9 H9 hP hD hS9 => ?_)
  have hP9 : va_P D cls ([(h0, .inr (4, [.null, .null, .int 0, .int 0, .int 0, .int 0, .int 0, .ref z1, .ref z3, .ref z5, .ref z7, .null])), (z1, .inl (q 0, 5, .inl (fun _ => 0))), (z3, .inl (q 0, 6, .inl (fun _ => 0))), (z5, .inl (q 0, 6, .inl (fun _ => 0))), (z7, .inl (q 0, 7, .inl (fun _ => 0))), (z9, .inl (q 0, 30, .inl (fun _ => 0)))]) H9 := hP
  have hD9 : va_D (va_A ([(h0, .inr (4, [.null, .null, .int 0, .int 0, .int 0, .int 0, .int 0, .null, .null, .null, .null, .null]))]) s.heap.size) ([(h0, .inr (4, [.null, .null, .int 0, .int 0, .int 0, .int 0, .int 0, .ref z1, .ref z3, .ref z5, .ref z7, .null])), (z1, .inl (q 0, 5, .inl (fun _ => 0))), (z3, .inl (q 0, 6, .inl (fun _ => 0))), (z5, .inl (q 0, 6, .inl (fun _ => 0))), (z7, .inl (q 0, 7, .inl (fun _ => 0))), (z9, .inl (q 0, 30, .inl (fun _ => 0)))]) := hD
  clear hP hD hP8 hD8 hS8
  refine W.widen (k := 5) (n := 54) (Nat.le_of_ble_eq_true rfl) (Nat.le_of_ble_eq_true rfl) ?_
  refine va_putF (D := D) (ci := 4) (v := .ref z9) (ty := (.array .int)) (C := RX4) (T := TX4) (N := 12) hx hb hW iX4 tyX4 tyX4_ok nmX4 hown hK hP9 hD9 hS9 0 rfl rfl 11 (by decide) (hW _ k_263) (fun _ h => h) rfl hin rfl (by decide +kernel) rfl rfl (Nat.le_of_ble_eq_true rfl) dX4_init_40 (fun H10 locs10 hP hD hS10 => ?_)
  have hP10 : va_P D cls ([(h0, .inr (4, [.null, .null, .int 0, .int 0, .int 0, .int 0, .int 0, .ref z1, .ref z3, .ref z5, .ref z7, .ref z9])), (z1, .inl (q 0, 5, .inl (fun _ => 0))), (z3, .inl (q 0, 6, .inl (fun _ => 0))), (z5, .inl (q 0, 6, .inl (fun _ => 0))), (z7, .inl (q 0, 7, .inl (fun _ => 0))), (z9, .inl (q 0, 30, .inl (fun _ => 0)))]) H10 := hP
  have hD10 : va_D (va_A ([(h0, .inr (4, [.null, .null, .int 0, .int 0, .int 0, .int 0, .int 0, .null, .null, .null, .null, .null]))]) s.heap.size) ([(h0, .inr (4, [.null, .null, .int 0, .int 0, .int 0, .int 0, .int 0, .ref z1, .ref z3, .ref z5, .ref z7, .ref z9])), (z1, .inl (q 0, 5, .inl (fun _ => 0))), (z3, .inl (q 0, 6, .inl (fun _ => 0))), (z5, .inl (q 0, 6, .inl (fun _ => 0))), (z7, .inl (q 0, 7, .inl (fun _ => 0))), (z9, .inl (q 0, 30, .inl (fun _ => 0)))]) := hD
  clear hP hD hP9 hD9 hS9
  refine lv_aload_n hx hb dX4_init_43 rfl (lv_at hl0 0 rfl) ?_
  refine lv_aload_n hx hb dX4_init_44 rfl (lv_at hl0 1 rfl) ?_
  refine va_putF (D := D) (ci := 4) (v := .ref sA) (ty := (.object "PartSitters$Street")) (C := RX4) (T := TX4) (N := 12) hx hb hW iX4 tyX4 tyX4_ok nmX4 hown hK hP10 hD10 hS10 0 rfl rfl 0 (by decide) (hW _ k_251) (fun _ h => h) rfl hin rfl (by decide +kernel) rfl rfl (Nat.le_of_ble_eq_true rfl) dX4_init_45 (fun H11 locs11 hP hD hS11 => ?_)
  have hP11 : va_P D cls ([(h0, .inr (4, [.ref sA, .null, .int 0, .int 0, .int 0, .int 0, .int 0, .ref z1, .ref z3, .ref z5, .ref z7, .ref z9])), (z1, .inl (q 0, 5, .inl (fun _ => 0))), (z3, .inl (q 0, 6, .inl (fun _ => 0))), (z5, .inl (q 0, 6, .inl (fun _ => 0))), (z7, .inl (q 0, 7, .inl (fun _ => 0))), (z9, .inl (q 0, 30, .inl (fun _ => 0)))]) H11 := hP
  have hD11 : va_D (va_A ([(h0, .inr (4, [.null, .null, .int 0, .int 0, .int 0, .int 0, .int 0, .null, .null, .null, .null, .null]))]) s.heap.size) ([(h0, .inr (4, [.ref sA, .null, .int 0, .int 0, .int 0, .int 0, .int 0, .ref z1, .ref z3, .ref z5, .ref z7, .ref z9])), (z1, .inl (q 0, 5, .inl (fun _ => 0))), (z3, .inl (q 0, 6, .inl (fun _ => 0))), (z5, .inl (q 0, 6, .inl (fun _ => 0))), (z7, .inl (q 0, 7, .inl (fun _ => 0))), (z9, .inl (q 0, 30, .inl (fun _ => 0)))]) := hD
  clear hP hD hP10 hD10 hS10
  refine lv_aload_n hx hb dX4_init_48 rfl (lv_at hl0 0 rfl) ?_
  refine lv_aload_n hx hb dX4_init_49 rfl (lv_at hl0 2 rfl) ?_
  refine va_putF (D := D) (ci := 4) (v := .ref eA) (ty := (.object "PartSitters$Seen")) (C := RX4) (T := TX4) (N := 12) hx hb hW iX4 tyX4 tyX4_ok nmX4 hown hK hP11 hD11 hS11 0 rfl rfl 1 (by decide) (hW _ k_252) (fun _ h => h) rfl hin rfl (by decide +kernel) rfl rfl (Nat.le_of_ble_eq_true rfl) dX4_init_50 (fun H12 locs12 hP hD hS12 => ?_)
  have hP12 : va_P D cls ([(h0, .inr (4, [.ref sA, .ref eA, .int 0, .int 0, .int 0, .int 0, .int 0, .ref z1, .ref z3, .ref z5, .ref z7, .ref z9])), (z1, .inl (q 0, 5, .inl (fun _ => 0))), (z3, .inl (q 0, 6, .inl (fun _ => 0))), (z5, .inl (q 0, 6, .inl (fun _ => 0))), (z7, .inl (q 0, 7, .inl (fun _ => 0))), (z9, .inl (q 0, 30, .inl (fun _ => 0)))]) H12 := hP
  have hD12 : va_D (va_A ([(h0, .inr (4, [.null, .null, .int 0, .int 0, .int 0, .int 0, .int 0, .null, .null, .null, .null, .null]))]) s.heap.size) ([(h0, .inr (4, [.ref sA, .ref eA, .int 0, .int 0, .int 0, .int 0, .int 0, .ref z1, .ref z3, .ref z5, .ref z7, .ref z9])), (z1, .inl (q 0, 5, .inl (fun _ => 0))), (z3, .inl (q 0, 6, .inl (fun _ => 0))), (z5, .inl (q 0, 6, .inl (fun _ => 0))), (z7, .inl (q 0, 7, .inl (fun _ => 0))), (z9, .inl (q 0, 30, .inl (fun _ => 0)))]) := hD
  clear hP hD hP11 hD11 hS11
  exact eIv (Wf := fun (u : Nat → Nat) => wX4 q u z0 sA eA) (u := (fun k => bif Nat.beq k 99 then h0 else bif Nat.beq k 7 then z1 else bif Nat.beq k 8 then z3 else bif Nat.beq k 9 then z5 else bif Nat.beq k 10 then z7 else bif Nat.beq k 11 then z9 else 0)) X hr hlocks hP12 hD12 hS12 rfl dX4_init_53

def wALL (q : Nat → ClassId) (ad : Nat → Nat → Nat) (G : Nat → SV) : va_W := wX5 q ad (G 0) ++ (wX3 q (ad 1) (G 1) ++ (wX3 q (ad 2) (G 2) ++ (wX3 q (ad 3) (G 3) ++ (wX3 q (ad 4) (G 4) ++ (wX0 q (ad 5) (G 5) (ad 6 99) ++ (wX3 q (ad 6) (G 6) ++ (wX1 q (ad 7) (G 7) ++ (wX4 q (ad 8) (G 8) (ad 1 99) (ad 7 99) ++ (wX2 q (ad 9) (G 9) ++ (wX2 q (ad 10) (G 10) ++ (wX2 q (ad 11) (G 11) ++ wX2 q (ad 12) (G 12))))))))))))
def G0 (res : SV) : Nat → SV := fun o => bif Nat.beq o 1 then res else bif Nat.beq o 2 then res else bif Nat.beq o 3 then res else bif Nat.beq o 4 then res else bif Nat.beq o 6 then res else bif Nat.beq o 9 then up2 z0 0 1 (-1 : Int32) else bif Nat.beq o 10 then up2 z0 0 1 (-1 : Int32) else bif Nat.beq o 11 then up2 z0 0 1 (-1 : Int32) else bif Nat.beq o 12 then up2 z0 0 1 (-1 : Int32) else z0
